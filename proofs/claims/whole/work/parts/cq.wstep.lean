/-! THE TEXT BY ITSELF: every item -/
section
variable {ln : Nat → Nat} {N M mc io c m n e b0 g : Nat} {P : yP} {vl lc gb : Nat → Int32} {I : List aI} {Fr Fr' : List (Nat × Nat)} {σ τ : zSt} {t : fT} {i j : Int32}
theorem dE (hN : 5000 ≤ N) (h : BX ln mc io c P m vl lc gb n e I b0 g Fr' σ τ) (hw : wfg P g t 0 0) (hr : rp P τ t i) (hp : cp P c σ (npF P g) t j) (hk : okW P I 1 (n + 1) (g :: Fr'.map Prod.snd)) : EXo ln N M P m c mc io i j σ τ := by
  have hg := h.2.2.1
  obtain ⟨k, v, w, A, B, D, rfl⟩ := wf_isN hw (Or.inl rfl)
  rcases wE_c hw with q | q | q | q | q | q | q | q | q
  · subst q; exact x1 h hr hp hk
  · subst q; exact x10 h hr hp hk
  · obtain ⟨rfl, q1, q2⟩ := q; exact x2 h hr hp q1 q2 hk
  · obtain ⟨rfl, q1⟩ := q; exact x3 h hr hp q1 hk
  · obtain ⟨rfl, q1, -⟩ := q; exact x45 (Or.inl rfl) h hw q1 hr hp hk
  · obtain ⟨rfl, q1, -⟩ := q; exact x45 (Or.inr rfl) h hw q1 hr hp hk
  · obtain ⟨rfl, q1, q2, q3⟩ := q; exact x6 h hw q1 q2 q3 hr hp hk
  · obtain ⟨q0, q1, q2⟩ := q; exact x78 q0 h hw q1 hr hp hk
  · obtain ⟨rfl, q1, q2, q3, q4, q5, q6, q7⟩ := q
    have q5' : v.toNat < g + 1 := q5
    have hf : isF P v.toNat := ⟨by have := hg.1; omega, q6⟩
    refine x9 hN h q1 q2 q3 q4 hf ?_ hr hp hk
    unfold npF
    rw [show P.1.2.2.2.1 v.toNat = nI w.toNat from q7, nI_clamp (by omega)]
theorem dS (h : BX ln mc io c P m vl lc gb n e I b0 g Fr' σ τ) (hw : wfg P g t 1 0) (hr : rp P τ t i) (hp : cp P c σ (npF P g) t j) (hk : okW P I 0 n (g :: Fr'.map Prod.snd)) : SXo ln N M P m c mc io i j σ τ := by
  obtain ⟨k, v, w, A, B, D, rfl⟩ := wf_isN hw (Or.inr rfl)
  rcases wS_c hw with q | q | q | q | q | q | q | q | q
  · obtain ⟨rfl, q1⟩ := q; exact s20 h q1 hr hp hk
  · obtain ⟨rfl, q1, q2, q3⟩ := q
    rcases q1 with q1 | q1
    · exact s21 h (wf_4 A q1) q2 q3 hr hp hk
    · exact sDo (by omega) h hw q1 hr hp hk
  · obtain ⟨rfl, q1, -⟩ := q; exact sDo (by omega) h hw q1 hr hp hk
  · obtain ⟨rfl, q1, -⟩ := q; exact sDo (by omega) h hw q1 hr hp hk
  · obtain ⟨q0, q1⟩ := q
    rcases q0 with e | e | e
    · exact sDo (by omega) h hw q1 hr hp hk
    · exact sDo (by omega) h hw q1 hr hp hk
    · subst e; exact s29 h q1 hr hp hk
  · obtain ⟨rfl, q1, -⟩ := q; exact sDo (by omega) h hw q1 hr hp hk
  · obtain ⟨rfl, q1, -⟩ := q; exact sDo (by omega) h hw q1 hr hp hk
  · obtain ⟨rfl, q1, q2, -⟩ := q; exact s28 h hw q1 q2 hr hp hk
  · subst q; exact s30 h hr hp hk
theorem WO_tr {σ1 τ1 σ' τ' : zSt} (f1 : fWC σ σ1) (f2 : fWR τ τ1) (h : WO P m c mc io σ1 τ1 σ' τ') : WO P m c mc io σ τ σ' τ' := ⟨fWC_trans f1 h.1, fWR_trans f2 h.2.1, h.2.2⟩
/-- what comes of an item, or of a call that has no room -/
def WO2 (P : yP) (m c mc io : Nat) (σ τ σ' τ' : zSt) : Prop := WO P m c mc io σ τ σ' τ' ∨ (fWC σ σ' ∧ fWR τ τ' ∧ TPr io σ' τ' ∧ zI σ' 8 14 = 4 ∧ zI τ' 0 75 = 0 ∧ ∃ n' k' e', zI τ' 0 79 = nI n' ∧ zI τ' 0 82 = nI k' ∧ zI τ' 0 84 = nI e' ∧ mc < n' + k' + P.2.1 + e' ∧ n' + k' + P.2.1 + e' < 1000000)
theorem takeC {k : Nat} (hl : LM ln mc io) (h11 : zI σ 8 11 = nI (k + 1)) (hk : k + 1 ≤ mc + 16) : fX10_takeItem ln N M σ = (if (zA σ 28 k) = (0 : Int32) then fX10_takeApart ln N M (zA σ 29 k) (zsI σ 8 11 (nI k)) else if (zA σ 28 k) = (1 : Int32) then fX10_finish ln N M (zA σ 29 k) (zsI σ 8 11 (nI k)) else if (zA σ 28 k) = (2 : Int32) then (obd (fX10_popValue ln N M (zsI σ 8 11 (nI k))) (fun r8 σ9 => if r8 = 0 then fX10_takeItem_b137 ln N M (0 : Int32) σ9 else fX10_takeItem_b137 ln N M (1 : Int32) σ9)) else if (zA σ 28 k) = (3 : Int32) then fX10_enter ln N M (zA σ 29 k) (zsI σ 8 11 (nI k)) else if (zA σ 28 k) = (4 : Int32) then fX10_openRow ln N M (zA σ 29 k) (zsI σ 8 11 (nI k)) else if (zA σ 28 k) = (5 : Int32) then fX10_goAlong ln N M (zA σ 29 k) (zsI σ 8 11 (nI k)) else if (zA σ 28 k) = (6 : Int32) then (obd (fX10_dropFrame ln N M (zsI σ 8 11 (nI k))) (fun _ σ19 => obd (fX10_pushValue ln N M (0 : Int32) σ19) (fun _ σ21 => some ((), σ21)))) else if (zA σ 28 k) = (7 : Int32) then (obd (fX10_popValue ln N M (zsI σ 8 11 (nI k))) (fun _ σ23 => some ((), σ23))) else some ((), zsI σ 8 11 (nI k))) := by
  have hmc := hl.2.2.2.2.2.2.2.2.2.1
  unfold fX10_takeItem
  rw [hl.2.2.2.2.1, hl.2.2.2.2.2.1, h11, if_neg (fun w => by rw [show (0 : Int32) = nI 0 from rfl, nI_le' (by omega) (by omega)] at w; omega), if_neg (fun w => by rw [nI_ltI (by omega) (by omega)] at w; omega), if_pos ((nI_le' (by omega) (by omega)).mpr hk), show nI (k + 1) - (1 : Int32) = nI k from nI_sb k 1, bnd_e, show zI (zsI σ 8 11 (nI k)) 8 11 = nI k by rw [zI_I, if_pos ⟨rfl, rfl⟩], nI_clamp (by omega), if_neg (ixN (by omega) (by omega)), bnd_e, if_neg (ixN (by omega) (by omega)), bnd_e, zA_I, zA_I]
  simp only [obd_u]
theorem tsk (N : Nat) (i : Int32) (τ : zSt) : fX12_takesItem N 2 i τ = fX12_begins N i τ ∧ fX12_takesItem N 3 i τ = fX12_ops N i τ ∧ fX12_takesItem N 4 i τ = fX12_logic N i τ ∧ fX12_takesItem N 8 i τ = fX12_states N i τ ∧ fX12_takesItem N 9 i τ = fX12_does N i τ := by
  refine ⟨?_, ?_, ?_, ?_, ?_⟩
  · show obd (fX12_begins N i τ) (fun _ s => some ((), s)) = _; exact obd_u
  · show obd (fX12_ops N i τ) (fun _ s => some ((), s)) = _; exact obd_u
  · show obd (fX12_logic N i τ) (fun _ s => some ((), s)) = _; exact obd_u
  · show obd (fX12_states N i τ) (fun _ s => some ((), s)) = _; exact obd_u
  · show obd (fX12_does N i τ) (fun _ s => some ((), s)) = _; exact obd_u
/-- a call -/
theorem itemC {a : aI} (hN : 5000 ≤ N) (E : WEN ln mc io c P m σ τ) (W : WI P m c io vl lc gb n e (a :: I) Fr σ τ) (h : a.1 = 0 ∧ isF P a.2.2 ∧ npF P a.2.2 ≤ n ∧ okW P I 1 (n - npF P a.2.2 + 1) (Fr.map Prod.snd)) (hF : Fr.length ≤ I.length + 1) (hb : n + I.length + e ≤ mc) : ∃ σ' τ', fX10_takeItem ln N M σ = some ((), σ') ∧ fX12_takesItem N (zA τ 44 I.length) (zA τ 45 I.length) (zsI τ 0 82 (nI I.length)) = some ((), τ') ∧ WO2 P m c mc io σ τ σ' τ' := by
  obtain ⟨e1, e2, -⟩ := id E
  have hc9 := e2.1
  have hmc := e1.2.2.2.2.2.2.2.2.2.1
  obtain ⟨w1, w2, w3, w4, w5, w6⟩ := W
  rw [List.length_cons] at w1 w2
  have f1 : fWC σ (zsI σ 8 11 (nI I.length)) := fWC_I (by omega)
  have f2 : fWR τ (zsI τ 0 82 (nI I.length)) := fWR_I (by omega)
  have E1 := WEN_f f1 f2 E
  have y1 := XC_11 I.length w1
  have y2 := XR_82 I.length w2
  have tP : TPr io (zsI σ 8 11 (nI I.length)) (zsI τ 0 82 (nI I.length)) := TPr_w (fun q hq => by rw [zI_I, if_neg (by omega)]) (fun q hq => by rw [zI_I, if_neg (by omega)]) (fun _ _ _ => rfl) (fun _ _ _ => rfl) w5
  have tA : TAt (zsI σ 8 11 (nI I.length)) (zsI τ 0 82 (nI I.length)) := TAt_w (fun q hq => by rw [zI_I, if_neg (by omega)]) (by rw [zI_I, if_neg (by omega)]) w6
  have y4 : frR P (zsI σ 8 11 (nI I.length)) (zsI τ 0 82 (nI I.length)) Fr e := frR_f (σ := σ) (τ := τ) Fr e (fun _ _ => ⟨rfl, rfl, rfl⟩) w4
  have y3 : itR P m c (zsI σ 8 11 (nI I.length)) (zsI τ 0 82 (nI I.length)) I (if a.1 = 7 then (Fr.map Prod.snd).tail else Fr.map Prod.snd) := itR_f (σ := σ) (τ := τ) hc9 (fW_tr f1 f2) I _ (fun _ _ => ⟨rfl, rfl, rfl, rfl⟩) w3.2
  have s := w3.1
  unfold slI at s
  rw [takeC e1 w1.2.1 (by omega)]
  have t19 : ∀ q, zA (zsI τ 0 82 (nI I.length)) 19 q = zA τ 19 q := fun _ => rfl
  have rpk : ∀ T x, rp P τ T x → rp P (zsI τ 0 82 (nI I.length)) T x := fun T x h => rp_f (τ := τ) (fun _ _ _ _ => rfl) h
  have cpk : ∀ np T x, cp P c σ np T x → cp P c (zsI σ 8 11 (nI I.length)) np T x := fun np T x h => cp_f (σ := σ) hc9 (fun _ _ _ _ => rfl) h
  have t11 : ∀ q, zA (zsI τ 0 82 (nI I.length)) 11 q = zA τ 11 q := fun _ => rfl
  revert f1 f2 E1 y1 y2 tP tA y4 y3 t19 rpk cpk t11
  generalize zsI σ 8 11 (nI I.length) = σ1
  generalize zsI τ 0 82 (nI I.length) = τ1
  intro f1 f2 E1 y1 y2 tP tA y4 y3 t19 rpk cpk t11
  obtain ⟨h0, hf, hnp, hk⟩ := h
  rw [if_pos h0] at s
  rw [if_neg (by omega)] at y3
  obtain ⟨s1, s2, s3, s4⟩ := s
  obtain ⟨n', rfl⟩ : ∃ n', n = n' + npF P a.2.2 := ⟨n - npF P a.2.2, by omega⟩
  rw [show n' + npF P a.2.2 - npF P a.2.2 + 1 = n' + 1 by omega] at hk
  obtain ⟨σ', τ', r1, r2, r3⟩ := t0 (N := N) (M := M) hN E1 ⟨y1, y2, y3, y4, tP, tA⟩ hf (by omega) (by omega) hk
  refine ⟨σ', τ', ?_, ?_, ?_⟩
  · rw [s2, if_neg (by decide), if_neg (by decide), if_neg (by decide), if_pos rfl, s3, r1]
  · have hb73 : ∀ x, fX12_takesItem_b73 N x τ1 = fX12_enters N x τ1 := fun x => by
      show obd (fX12_enters N x τ1) (fun _ s => some ((), s)) = _
      exact obd_u
    rw [s1]
    rcases s4 with ⟨p1, p2⟩ | ⟨k, p1, p2, p3, -⟩
    · rw [p1, show fX12_takesItem N 1 (-1) τ1 = obd (fX12_named N (1835100526 : Int64) τ1) (fun r3 σ4 => fX12_takesItem_b73 N r3 σ4) from rfl]
      have hPM := E1.2.2.2.2.2.2.2.2.1
      have hml := E1.2.2.2.2.2.2.2.1.2.2.2.2.1
      have hn5 := E1.2.2.2.2.2.2.2.1.2.2.2.2.2
      have hnm : fX12_named N (1835100526 : Int64) τ1 = some (nI m, τ1) := by
        unfold fX12_named
        rw [hPM.1, bnd_e, namR (G := P.1) (by omega) (fun j hj => (hPM.2.1 j hj).1) P.1.2.2.2.2 N (Nat.le_refl _) (by omega), show (1835100526 : Int64) = yMain from rfl, hml]
      rw [hnm, obd_s, hb73, ← p2, r2]
    · rw [p2, show fX12_takesItem N 1 (nI k) τ1 = (if 0 ≤ nI k then (if (nI k) < 0 ∨ 4200 ≤ (nI k).toNatClampNeg then none else fX12_takesItem_b73 N (zA τ1 19 (nI k).toNatClampNeg) τ1) else (obd (fX12_named N (1835100526 : Int64) τ1) (fun r3 σ4 => fX12_takesItem_b73 N r3 σ4))) from rfl, if_pos (nI_ixge (by omega)), nI_clamp (by omega), if_neg (ixN (by omega) (by omega)), t19, p3, hb73, r2]
  · rcases r3 with r3 | ⟨q1, q2, q3⟩
    · exact Or.inl (WO_tr f1 f2 r3)
    · exact Or.inr ⟨fWC_trans f1 q1, fWR_trans f2 q2, q3⟩
/-- every item -/
theorem itemN {a : aI} {md : Nat} (hne : ¬ a.1 = 0) (hN : 5000 ≤ N) (E : WEN ln mc io c P m σ τ) (W : WI P m c io vl lc gb n e (a :: I) Fr σ τ) (ho : okW P (a :: I) md n (Fr.map Prod.snd)) (hb : n + (I.length + 1) + P.2.1 + e ≤ mc) : ∃ σ' τ', fX10_takeItem ln N M σ = some ((), σ') ∧ fX12_takesItem N (zA τ 44 I.length) (zA τ 45 I.length) (zsI τ 0 82 (nI I.length)) = some ((), τ') ∧ WO2 P m c mc io σ τ σ' τ' := by
  have hF := okW_F _ _ _ _ ho
  rw [List.length_map, List.length_cons] at hF
  obtain ⟨e1, e2, -⟩ := id E
  have hc9 := e2.1
  have hmc := e1.2.2.2.2.2.2.2.2.2.1
  obtain ⟨w1, w2, w3, w4, w5, w6⟩ := W
  rw [List.length_cons] at w1 w2
  have f1 : fWC σ (zsI σ 8 11 (nI I.length)) := fWC_I (by omega)
  have f2 : fWR τ (zsI τ 0 82 (nI I.length)) := fWR_I (by omega)
  have E1 := WEN_f f1 f2 E
  have y1 := XC_11 I.length w1
  have y2 := XR_82 I.length w2
  have tP : TPr io (zsI σ 8 11 (nI I.length)) (zsI τ 0 82 (nI I.length)) := TPr_w (fun q hq => by rw [zI_I, if_neg (by omega)]) (fun q hq => by rw [zI_I, if_neg (by omega)]) (fun _ _ _ => rfl) (fun _ _ _ => rfl) w5
  have tA : TAt (zsI σ 8 11 (nI I.length)) (zsI τ 0 82 (nI I.length)) := TAt_w (fun q hq => by rw [zI_I, if_neg (by omega)]) (by rw [zI_I, if_neg (by omega)]) w6
  have y4 : frR P (zsI σ 8 11 (nI I.length)) (zsI τ 0 82 (nI I.length)) Fr e := frR_f (σ := σ) (τ := τ) Fr e (fun _ _ => ⟨rfl, rfl, rfl⟩) w4
  have y3 : itR P m c (zsI σ 8 11 (nI I.length)) (zsI τ 0 82 (nI I.length)) I (if a.1 = 7 then (Fr.map Prod.snd).tail else Fr.map Prod.snd) := itR_f (σ := σ) (τ := τ) hc9 (fW_tr f1 f2) I _ (fun _ _ => ⟨rfl, rfl, rfl, rfl⟩) w3.2
  have s := w3.1
  unfold slI at s
  rw [takeC e1 w1.2.1 (by omega)]
  have t19 : ∀ q, zA (zsI τ 0 82 (nI I.length)) 19 q = zA τ 19 q := fun _ => rfl
  have rpk : ∀ T x, rp P τ T x → rp P (zsI τ 0 82 (nI I.length)) T x := fun T x h => rp_f (τ := τ) (fun _ _ _ _ => rfl) h
  have cpk : ∀ np T x, cp P c σ np T x → cp P c (zsI σ 8 11 (nI I.length)) np T x := fun np T x h => cp_f (σ := σ) hc9 (fun _ _ _ _ => rfl) h
  have t11 : ∀ q, zA (zsI τ 0 82 (nI I.length)) 11 q = zA τ 11 q := fun _ => rfl
  revert f1 f2 E1 y1 y2 tP tA y4 y3 t19 rpk cpk t11
  generalize zsI σ 8 11 (nI I.length) = σ1
  generalize zsI τ 0 82 (nI I.length) = τ1
  intro f1 f2 E1 y1 y2 tP tA y4 y3 t19 rpk cpk t11
  rcases ho with h | h | h
  · exact absurd h.1 hne
  · -- the end
    obtain ⟨h7, -, F', hFr, hk⟩ := h
    rw [if_neg (by omega), if_neg (by omega), if_neg (by omega), if_pos h7] at s
    rw [if_pos h7] at y3
    cases Fr with
    | nil => cases hFr
    | cons x Fr' =>
      obtain ⟨b0, g⟩ := x
      obtain ⟨-, rfl⟩ := List.cons.inj hFr
      obtain ⟨σ', τ', r1, r2, r3⟩ := t7 (N := N) (M := M) (I := I) E1 y1 y2 y3 y4 tP tA (by omega) (by rw [List.length_cons] at hF; omega) hk
      refine ⟨σ', τ', ?_, ?_, Or.inl (WO_tr f1 f2 r3)⟩
      · rw [s.2, if_neg (by decide), if_neg (by decide), if_neg (by decide), if_neg (by decide), if_neg (by decide), if_neg (by decide), if_pos rfl, r1]
      · rw [s.1]; exact r2
  · obtain ⟨g, F', hFr, hg, h⟩ := h
    cases Fr with
    | nil => cases hFr
    | cons x Fr' =>
      obtain ⟨b0, g'⟩ := x
      obtain ⟨eg, rfl⟩ := List.cons.inj hFr
      have eg : g' = g := eg
      subst eg
      have hlen : (((b0, g') :: Fr').map Prod.snd).length ≤ I.length + 1 := by rw [List.length_map]; exact hF
      have hB : a.1 ≠ 7 → ∀ n', n' = n → BX ln mc io c P m vl lc gb n' e I b0 g' Fr' σ1 τ1 := fun h7 n' e' => by
        rw [if_neg h7] at y3
        rw [e']
        exact ⟨E1, ⟨y1, y2, y3, y4, tP, tA⟩, hg, by omega, hlen⟩
      have tree : a.1 = 1 ∨ a.1 = 2 ∨ a.1 = 4 ∨ a.1 = 5 ∨ a.1 = 8 ∨ a.1 = 9 → zA τ 44 I.length = rkI a.1 ∧ zA σ 28 I.length = ckI a.1 ∧ rp P τ1 a.2.1 (zA τ 45 I.length) ∧ cp P c σ1 (npF P g') a.2.1 (zA σ 29 I.length) := fun hq => by
        rw [if_neg (by omega), if_neg (by omega), if_neg (by omega), if_neg (by omega), if_neg (by omega)] at s
        exact ⟨s.1, s.2.1, rpk _ _ s.2.2.1, cpk _ _ _ s.2.2.2⟩
      rcases h with h | h | h | h | h | h | h | h | h
      · obtain ⟨h1, -, hw, hk⟩ := h
        obtain ⟨q1, q2, q3, q4⟩ := tree (by omega)
        obtain ⟨σ', τ', r1, r2, r3⟩ := dE (M := M) hN (hB (by omega) n rfl) hw q3 q4 hk
        refine ⟨σ', τ', ?_, ?_, Or.inl (WO_tr f1 f2 r3)⟩
        · rw [q2, h1, show ckI 1 = 0 from rfl, if_pos rfl, r1]
        · rw [q1, h1, show rkI 1 = 2 from rfl, (tsk N _ τ1).1, r2]
      · obtain ⟨h1, -, hw, k, v, w, A, B, D, et, h⟩ := h
        obtain ⟨q1, q2, q3, q4⟩ := tree (by omega)
        rw [et] at q3 q4 hw
        have key : OPo ln N M P m c mc io (zA τ 45 I.length) (zA σ 29 I.length) σ1 τ1 := by
          rcases h with ⟨hk45, h1n, hk⟩ | ⟨hk6, h2n, hk⟩
          · obtain ⟨n', rfl⟩ : ∃ n', n = n' + 1 := ⟨n - 1, by omega⟩
            rcases hk45 with e | e
            · subst e
              rcases wE_c hw with q | q | q | q | q | q | q | q | q
              · omega
              · omega
              · omega
              · exact absurd q.1 (by decide)
              · exact o4 (hB (by omega) _ rfl) q.2.2.1 q.2.2.2.1 q.2.2.2.2 q3 q4 hk
              · exact absurd q.1 (by decide)
              · exact absurd q.1 (by decide)
              · exact absurd q.1 (by decide)
              · exact absurd q.1 (by decide)
            · subst e
              exact o5 (hB (by omega) _ rfl) q3 q4 hk
          · subst hk6
            obtain ⟨n', rfl⟩ : ∃ n', n = n' + 1 + 1 := ⟨n - 2, by omega⟩
            rcases wE_c hw with q | q | q | q | q | q | q | q | q
            · omega
            · omega
            · omega
            · exact absurd q.1 (by decide)
            · exact absurd q.1 (by decide)
            · exact absurd q.1 (by decide)
            · exact o6 (hB (by omega) _ rfl) q.2.2.2 q3 q4 hk
            · exact absurd q.1 (by decide)
            · exact absurd q.1 (by decide)
        obtain ⟨σ', τ', r1, r2, r3⟩ := key
        refine ⟨σ', τ', ?_, ?_, Or.inl (WO_tr f1 f2 r3)⟩
        · rw [q2, h1, show ckI 4 = 1 from rfl, if_neg (by decide), if_pos rfl, r1]
        · rw [q1, h1, show rkI 4 = 3 from rfl, (tsk N _ τ1).2.1, r2]
      · obtain ⟨h1, -, hw, h1n, ⟨k, v, w, A, B, D, et, hk7⟩, hk⟩ := h
        obtain ⟨q1, q2, q3, q4⟩ := tree (by omega)
        rw [et] at q3 q4 hw
        obtain ⟨n', rfl⟩ : ∃ n', n = n' + 1 := ⟨n - 1, by omega⟩
        have hwB : wfg P g' B 0 0 := by
          rcases wE_c hw with q | q | q | q | q | q | q | q | q
          · omega
          · omega
          · omega
          · exact absurd q.1 (by omega)
          · exact absurd q.1 (by omega)
          · exact absurd q.1 (by omega)
          · exact absurd q.1 (by omega)
          · exact q.2.2
          · exact absurd q.1 (by omega)
        obtain ⟨σ', τ', r1, r2, r3⟩ := o78 (N := N) (M := M) hk7 (hB (by omega) _ rfl) hwB q3 q4 hk
        refine ⟨σ', τ', ?_, ?_, Or.inl (WO_tr f1 f2 r3)⟩
        · rw [q2, h1, show ckI 5 = 1 from rfl, if_neg (by decide), if_pos rfl, r1]
        · rw [q1, h1, show rkI 5 = 4 from rfl, (tsk N _ τ1).2.2.1, r2]
      · obtain ⟨h1, -, h1n, hk⟩ := h
        rw [if_neg (by omega), if_neg (by omega), if_pos h1] at s
        obtain ⟨n', rfl⟩ : ∃ n', n = n' + 1 := ⟨n - 1, by omega⟩
        obtain ⟨σ', τ', r1, r2, r3⟩ := o6t (N := N) (M := M) (hB (by omega) _ rfl) hk
        refine ⟨σ', τ', ?_, ?_, Or.inl (WO_tr f1 f2 r3)⟩
        · rw [s.2, if_neg (by decide), if_neg (by decide), if_pos rfl, r1]
        · rw [s.1]; exact r2
      · obtain ⟨h1, -, hw, k, v, w, A, B, D, et, h⟩ := h
        obtain ⟨q1, q2, q3, q4⟩ := tree (by omega)
        rw [et] at q3 q4 hw
        have key : DOo ln N M P m c mc io (zA τ 45 I.length) (zA σ 29 I.length) σ1 τ1 := by
          rcases h with ⟨hk21, h1n, hk⟩ | ⟨hk28, h2n, hk⟩
          · obtain ⟨n', rfl⟩ : ∃ n', n = n' + 1 := ⟨n - 1, by omega⟩
            have hk' : okW P I 0 n' (g' :: Fr'.map Prod.snd) := hk
            rcases wS_c hw with q | q | q | q | q | q | q | q | q
            · omega
            · obtain ⟨e, q1, q2, q3'⟩ := q
              exact d21 (Or.inl e) (hB (by omega) _ rfl) (Or.inl ⟨q2, q3'⟩) q3 q4 hk'
            · obtain ⟨e, q1, q2, q3'⟩ := q
              subst e
              exact d22 (hB (by omega) _ rfl) q2 (q3'.imp (wf_4 D) id) q3 q4 hk'
            · obtain ⟨e, q1, q2⟩ := q
              subst e
              exact d23 (hB (by omega) _ rfl) hw q2 q3 q4 hk'
            · obtain ⟨q0, q1⟩ := q
              rcases q0 with e | e | e
              · subst e; exact d24 hN (hB (by omega) _ rfl) q3 q4 hk'
              · subst e; exact d25 (hB (by omega) _ rfl) q3 q4 hk'
              · omega
            · obtain ⟨e, q1, q2, q3'⟩ := q
              subst e
              exact d26 (hB (by omega) _ rfl) q2 q3' q3 q4 hk'
            · obtain ⟨e, q1, q2⟩ := q
              exact d21 (Or.inr e) (hB (by omega) _ rfl) q2 q3 q4 hk'
            · omega
            · omega
          · subst hk28
            obtain ⟨n', rfl⟩ : ∃ n', n = n' + 1 + 1 := ⟨n - 2, by omega⟩
            have hk' : okW P I 0 n' (g' :: Fr'.map Prod.snd) := hk
            rcases wS_c hw with q | q | q | q | q | q | q | q | q
            · omega
            · exact absurd q.1 (by decide)
            · exact absurd q.1 (by decide)
            · exact absurd q.1 (by decide)
            · exact absurd q.1 (by decide)
            · exact absurd q.1 (by decide)
            · exact absurd q.1 (by decide)
            · exact d28 (hB (by omega) _ rfl) q.2.2.2.1 q.2.2.2.2.1 q.2.2.2.2.2 q3 q4 hk'
            · omega
        obtain ⟨σ', τ', r1, r2, r3⟩ := key
        refine ⟨σ', τ', ?_, ?_, Or.inl (WO_tr f1 f2 r3)⟩
        · rw [q2, h1, show ckI 9 = 1 from rfl, if_neg (by decide), if_pos rfl, r1]
        · rw [q1, h1, show rkI 9 = 9 from rfl, (tsk N _ τ1).2.2.2.2, r2]
      · obtain ⟨h1, -, h1n, hk⟩ := h
        rw [if_neg (by omega), if_neg (by omega), if_neg (by omega), if_neg (by omega), if_pos h1] at s
        obtain ⟨n', rfl⟩ : ∃ n', n = n' + 1 := ⟨n - 1, by omega⟩
        have hk' : okW P I 0 n' (g' :: Fr'.map Prod.snd) := hk
        obtain ⟨σ', τ', r1, r2, r3⟩ := t10 (N := N) (M := M) (hB (by omega) _ rfl) hk'
        refine ⟨σ', τ', ?_, ?_, Or.inl (WO_tr f1 f2 r3)⟩
        · rw [s.2, if_neg (by decide), if_neg (by decide), if_neg (by decide), if_neg (by decide), if_neg (by decide), if_neg (by decide), if_neg (by decide), if_pos rfl, r1]
        · rw [s.1]; exact r2
      · obtain ⟨h1, -, hw, hk⟩ := h
        obtain ⟨q1, q2, q3, q4⟩ := tree (by omega)
        obtain ⟨σ', τ', r1, r2, r3⟩ := dS (N := N) (M := M) (hB (by omega) n rfl) hw q3 q4 hk
        refine ⟨σ', τ', ?_, ?_, Or.inl (WO_tr f1 f2 r3)⟩
        · rw [q2, h1, show ckI 2 = 0 from rfl, if_pos rfl, r1]
        · rw [q1, h1, show rkI 2 = 8 from rfl, (tsk N _ τ1).2.2.2.1, r2]
      · obtain ⟨h1, -, hf, hk⟩ := h
        rw [if_neg (by omega), if_pos h1] at s
        obtain ⟨σ', τ', r1, r2, r3⟩ := t3 (N := N) (M := M) (hB (by omega) n rfl) hk
        refine ⟨σ', τ', ?_, ?_, Or.inl (WO_tr f1 f2 r3)⟩
        · rw [s.2.2.1, if_neg (by decide), if_neg (by decide), if_neg (by decide), if_neg (by decide), if_pos rfl, s.2.2.2, hf, r1]
        · rw [s.1, s.2.1, hf, (tsk N _ τ1).2.2.2.1, ← t11, r2]
      · obtain ⟨h1, -, ⟨t', r', et⟩, hw, hk⟩ := h
        obtain ⟨q1, q2, q3, q4⟩ := tree (by omega)
        rw [et] at q3 q4 hw
        obtain ⟨σ', τ', r1, r2, r3⟩ := t8 (N := N) (M := M) (hB (by omega) n rfl) hw q3 q4 hk
        refine ⟨σ', τ', ?_, ?_, Or.inl (WO_tr f1 f2 r3)⟩
        · rw [q2, h1, show ckI 8 = 5 from rfl, if_neg (by decide), if_neg (by decide), if_neg (by decide), if_neg (by decide), if_neg (by decide), if_pos rfl, r1]
        · rw [q1, h1, show rkI 8 = 7 from rfl, r2]
/-- every item -/
theorem itemW {a : aI} {md : Nat} (hN : 5000 ≤ N) (E : WEN ln mc io c P m σ τ) (W : WI P m c io vl lc gb n e (a :: I) Fr σ τ) (ho : okW P (a :: I) md n (Fr.map Prod.snd)) (hb : n + (I.length + 1) + P.2.1 + e ≤ mc) : ∃ σ' τ', fX10_takeItem ln N M σ = some ((), σ') ∧ fX12_takesItem N (zA τ 44 I.length) (zA τ 45 I.length) (zsI τ 0 82 (nI I.length)) = some ((), τ') ∧ WO2 P m c mc io σ τ σ' τ' := by
  by_cases h0 : a.1 = 0
  · have hF := okW_F _ _ _ _ ho
    rw [List.length_map, List.length_cons] at hF
    refine itemC hN E W ?_ hF (by omega)
    rcases ho with h | h | h
    · exact ⟨h.1, h.2.2⟩
    · exact absurd h.1 (by omega)
    · obtain ⟨g, F', -, -, h⟩ := h
      rcases h with h | h | h | h | h | h | h | h | h
      all_goals exact absurd h.1 (by omega)
  · exact itemN h0 hN E W ho hb
end
