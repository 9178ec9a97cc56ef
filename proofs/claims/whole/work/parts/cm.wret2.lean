/-! THE TEXT BY ITSELF: return, end, rows, bodies -/
theorem mset_same {vl : Nat → Int32} {n : Nat} : mset vl n (vl n) = vl := by
  funext i
  unfold mset
  by_cases c : i = n
  · rw [if_pos c, c]
  · rw [if_neg c]
section
variable {ln : Nat → Nat} {N M mc io c m n e b0 g : Nat} {P : yP} {vl lc gb : Nat → Int32} {I : List aI} {Fr' : List (Nat × Nat)} {σ τ : zSt} {A B D : fT} {v w : Int} {i j : Int32}
theorem d24 (hN : 5000 ≤ N) (h : BX ln mc io c P m vl lc gb (n + 1) e I b0 g Fr' σ τ) (hr : rp P τ (fN 24 v w A B D) i) (hp : cp P c σ (npF P g) (fN 24 v w A B D) j) (hk : okW P I 0 n (g :: Fr'.map Prod.snd)) : DOo ln N M P m c mc io i j σ τ := by
  obtain ⟨e1, e2, -⟩ := id h.1
  have hc9 := e2.1
  have hb := h.2.2.2.1
  have hl2 := h.2.2.2.2
  rw [List.length_map, List.length_cons] at hl2
  have hmc := e1.2.2.2.2.2.2.2.2.2.1
  obtain ⟨a, rfl, ha, a1, a2, -⟩ := rp_N hr
  obtain ⟨b, rfl, hb2, b1, b2, -⟩ := cp_N hp
  obtain ⟨w1, w2, w3, w4, w5, w6⟩ := id h.2.1
  obtain ⟨fr1, fr2, fr3, fr4, fr5, fr6⟩ := w4
  have hpos : 1 ≤ I.length := by
    cases I with
    | nil => exact absurd hk.1 (by decide)
    | cons x I => rw [List.length_cons]; omega
  -- the reference takes the value and gives it back
  have g1 := wgoR (N := N) w2 (by omega)
  have x1 := XR_79 n (by omega) w2
  have g2 := wgvR (N := N) (v := vl n) x1 (by omega)
  have x2 := XR_v (v := vl n) x1
  rw [mset_same] at x2
  have f2 : fWR τ (zsI (zsA (zsI τ 0 79 (nI n)) 43 n (vl n)) 0 79 (nI (n + 1))) := fWR_trans (fWR_I (by omega)) (fWR_trans (fWR_A (by omega)) (fWR_I (by omega)))
  have w3' : itR P m c σ (zsI (zsA (zsI τ 0 79 (nI n)) 43 n (vl n)) 0 79 (nI (n + 1))) I (g :: Fr'.map Prod.snd) := itR_f (σ := σ) (τ := τ) hc9 (fW_tr fWC_refl f2) I _ (fun p hp => ⟨rfl, rfl, by rw [zA_I, zA_A, if_neg (by omega)]; rfl, by rw [zA_I, zA_A, if_neg (by omega)]; rfl⟩) w3
  have t47 : zA (zsI (zsA (zsI τ 0 79 (nI n)) 43 n (vl n)) 0 79 (nI (n + 1))) 47 Fr'.length = nI b0 := by rw [zA_I, zA_A, if_neg (by omega)]; exact fr3
  have tT : TPr io σ (zsI (zsA (zsI τ 0 79 (nI n)) 43 n (vl n)) 0 79 (nI (n + 1))) := TPr_w (fun _ _ => rfl) (fun j hj => by rw [zI_I, if_neg (by omega), zI_A, zI_I, if_neg (by omega)]) (fun _ _ _ => rfl) (fun a i ha => by rw [zA_I, zA_A, if_neg (by omega)]; rfl) w5
  have tA : TAt σ (zsI (zsA (zsI τ 0 79 (nI n)) 43 n (vl n)) 0 79 (nI (n + 1))) := TAt_w (fun _ _ => rfl) (by rw [zI_I, if_neg (by omega), zI_A, zI_I, if_neg (by omega)]) w6
  have tfr : frR P σ (zsI (zsA (zsI τ 0 79 (nI n)) 43 n (vl n)) 0 79 (nI (n + 1))) Fr' b0 := frR_f (σ := σ) (τ := τ) Fr' b0 (fun q hq => ⟨by rw [zA_I, zA_A, if_neg (by omega)]; rfl, by rw [zA_I, zA_A, if_neg (by omega)]; rfl, rfl⟩) fr6
  have hR : fX12_does N (nI a) τ = fX12_does_b216 N N (zsI (zsA (zsI τ 0 79 (nI n)) 43 n (vl n)) 0 79 (nI (n + 1))) := by
    unfold fX12_does
    rw [g1, obd_s, nI_clamp (by omega), if_neg (ixN (by omega) (by omega)), zA_I, a1, bnd_e, show nI 24 = 24 from rfl, if_neg (by decide), if_neg (by decide), if_neg (by decide), if_pos rfl, g2, obd_s]
  revert f2 x2 w3' t47 tT tA tfr hR
  generalize zsI (zsA (zsI τ 0 79 (nI n)) 43 n (vl n)) 0 79 (nI (n + 1)) = τ2
  intro x2 f2 w3' t47 tT tA tfr hR
  have hC : fX10_finish ln N M (nI b) σ = fX10_finishReturn_b7 ln N M N (nI (I.length - 1)) σ := by
    have e3 : nI I.length - (1 : Int32) = nI (I.length - 1) := by
      obtain ⟨q, hq⟩ : ∃ q, I.length = q + 1 := ⟨I.length - 1, by omega⟩
      rw [hq]
      exact nI_sb q 1
    unfold fX10_finish
    rw [rbT e2.1 e2.2.1, (tkC e2 hb2).1, obd_s, b1, show cKd 24 = 12 from rfl, if_neg (by decide), if_neg (by decide), if_neg (by decide), if_neg (by decide), if_neg (by decide), if_neg (by decide), if_neg (by decide), if_neg (by decide), if_pos rfl, obd_u]
    unfold fX10_finishReturn
    rw [w1.2.1, e3, bnd_e]
  obtain ⟨f, I', F', z, y, r1, r2, r3, r4, r5, r6, r7, r8, r9, r10, r11, r12⟩ := retL (N := N) (M := M) e1 hc9 I n _ N N σ τ2 hk w3' (by omega) (by omega) (by omega) x2.2.1
  have r1' := List.cons.inj r1
  have xz : XC P.2.1 vl lc gb (n + 1) I'.length (Fr'.length + 1) e z := by
    obtain ⟨q1, q2, q3, q4, q5, q6, q7, q8⟩ := w1
    have zz : ∀ a p, zA z a p = zA σ a p := fun a p => by unfold zA; rw [r8]
    exact ⟨(r7 _ _ (by omega)).trans q1, r6, (r7 _ _ (by omega)).trans q3, (r7 _ _ (by omega)).trans q4, fun p hp => (zz _ _).trans (q5 p hp), fun p hp => (zz _ _).trans (q6 p hp), fun p hp => (zz _ _).trans (q7 p hp), (r7 _ _ (by omega)).trans q8⟩
  have xy : XR P.2.1 vl lc gb (n + 1) I'.length (Fr'.length + 1) e y := by
    obtain ⟨q1, q2, q3, q4, q5, q6, q7, q8⟩ := x2
    have zz : ∀ a p, zA y a p = zA τ2 a p := fun a p => by unfold zA; rw [r12]
    exact ⟨(r11 _ _ (by omega)).trans q1, r10, (r11 _ _ (by omega)).trans q3, (r11 _ _ (by omega)).trans q4, fun p hp => (zz _ _).trans (q5 p hp), fun p hp => (zz _ _).trans (q6 p hp), fun p hp => (zz _ _).trans (q7 p hp), (r11 _ _ (by omega)).trans q8⟩
  have zA' : ∀ a p, zA z a p = zA σ a p := fun a p => by unfold zA; rw [r8]
  have yA' : ∀ a p, zA y a p = zA τ2 a p := fun a p => by unfold zA; rw [r12]
  obtain ⟨s1, s2⟩ := dropC (N := N) (M := M) (b := b0) e1 xz (by omega) ((zA' _ _).trans fr5) (by omega)
  obtain ⟨s3, s4⟩ := leavR (N := N) (b := b0) xy (by omega) ((yA' _ _).trans t47) (by omega)
  have fz : fWC σ z := ⟨fun o q c1 _ => r7 o q (by omega), fun o q => by unfold zL; rw [r8], fun o q => by unfold zR; rw [r8], fun a p _ _ => zA' a p, fun a p => by unfold zB; rw [r8]⟩
  have fy : fWR τ2 y := ⟨fun q c1 c2 c3 c4 c5 c6 c7 => r11 0 q (by omega), fun a p _ _ => yA' a p, fun a p => by unfold zB; rw [r12]⟩
  have f3 : fWC z (zsI (zsI z 8 12 (nI Fr'.length)) 8 13 (nI b0)) := fWC_trans (fWC_I (by omega)) (fWC_I (by omega))
  have f4 : fWR y (zsI (zsI y 0 87 (nI Fr'.length)) 0 84 (nI b0)) := fWR_trans (fWR_I (by omega)) (fWR_I (by omega))
  refine ⟨zsI (zsI z 8 12 (nI Fr'.length)) 8 13 (nI b0), zsI (zsI y 0 87 (nI Fr'.length)) 0 84 (nI b0), ?_, ?_, WO_ok (fWC_trans fz f3) (fWR_trans f2 (fWR_trans fy f4)) (vl' := vl) (lc' := lc) (gb' := gb) (n' := n + 1) (e' := b0) (I' := I') (Fr' := Fr') (md := 1) ⟨s2, s4, ?_, ?_, ?_, ?_⟩ (by rw [r1'.2]; exact r2) (by omega) (by omega) (by omega)⟩
  · rw [hC, r5]
    unfold fX10_finishReturn_b45
    rw [s1, obd_s]
  · rw [hR, r9, s3]
  · rw [r1'.2]
    exact itR_f (σ := σ) (τ := τ2) hc9 (fW_tr (fWC_trans fz f3) (fWR_trans fy f4)) I' F' (fun p hp => ⟨zA' _ _, zA' _ _, yA' _ _, yA' _ _⟩) r3
  · exact frR_f (σ := σ) (τ := τ2) Fr' b0 (fun q hq => ⟨yA' _ _, yA' _ _, zA' _ _⟩) tfr
  · exact TPr_w (fun k hk => by rw [zI_I, if_neg (by omega), zI_I, if_neg (by omega)]; exact r7 _ _ (by omega)) (fun j hj => by rw [zI_I, if_neg (by omega), zI_I, if_neg (by omega)]; exact r11 _ _ (by omega)) (fun a i _ => zA' _ _) (fun a i _ => yA' _ _) tT
  · exact TAt_w (fun k hk => by rw [zI_I, if_neg (by omega), zI_I, if_neg (by omega)]; exact r7 _ _ (by omega)) (by rw [zI_I, if_neg (by omega), zI_I, if_neg (by omega)]; exact r11 _ _ (by omega)) tA
/-- the end of a FUNCTION -/
theorem t7 (E : WEN ln mc io c P m σ τ) (w1 : XC P.2.1 vl lc gb n I.length (Fr'.length + 1) e σ) (w2 : XR P.2.1 vl lc gb n I.length (Fr'.length + 1) e τ) (w3 : itR P m c σ τ I (Fr'.map Prod.snd)) (w4 : frR P σ τ ((b0, g) :: Fr') e) (w5 : TPr io σ τ) (w6 : TAt σ τ) (hb : n + I.length + 1 + P.2.1 + e ≤ mc) (hl2 : Fr'.length ≤ I.length) (hk : okW P I 1 (n + 1) (Fr'.map Prod.snd)) : ∃ σ' τ', obd (fX10_dropFrame ln N M σ) (fun _ σ19 => obd (fX10_pushValue ln N M (0 : Int32) σ19) (fun _ σ21 => some ((), σ21))) = some ((), σ') ∧ obd (fX12_gives N (0 : Int32) τ) (fun _ σ16 => obd (fX12_leaves N σ16) (fun _ σ18 => some ((), σ18))) = some ((), τ') ∧ WO P m c mc io σ τ σ' τ' := by
  obtain ⟨e1, e2, -⟩ := id E
  have hc9 := e2.1
  have hmc := e1.2.2.2.2.2.2.2.2.2.1
  obtain ⟨fr1, fr2, fr3, fr4, fr5, fr6⟩ := w4
  obtain ⟨s1, s2⟩ := dropC (N := N) (M := M) (b := b0) e1 w1 (by omega) fr5 (by omega)
  have s5 := wpvC (N := N) (M := M) (v := 0) e1 s2 (by omega)
  have s6 := XC_v (v := 0) s2
  have g2 := wgvR (N := N) (v := 0) w2 (by omega)
  have x2 := XR_v (v := 0) w2
  obtain ⟨s3, s4⟩ := leavR (N := N) (b := b0) x2 (by omega) (by rw [zA_I, zA_A, if_neg (by omega)]; exact fr3) (by omega)
  rw [s1, obd_s, s5, obd_s, g2, obd_s, s3, obd_s]
  have f1 : fWC σ (zsI (zsA (zsI (zsI σ 8 12 (nI Fr'.length)) 8 13 (nI b0)) 27 n 0) 8 10 (nI (n + 1))) := fWC_trans (fWC_I (by omega)) (fWC_trans (fWC_I (by omega)) (fWC_trans (fWC_A (by omega)) (fWC_I (by omega))))
  have f2 : fWR τ (zsI (zsI (zsI (zsA τ 43 n 0) 0 79 (nI (n + 1))) 0 87 (nI Fr'.length)) 0 84 (nI b0)) := fWR_trans (fWR_A (by omega)) (fWR_trans (fWR_I (by omega)) (fWR_trans (fWR_I (by omega)) (fWR_I (by omega))))
  refine ⟨_, _, rfl, rfl, WO_ok f1 f2 (vl' := mset vl n 0) (lc' := lc) (gb' := gb) (n' := n + 1) (e' := b0) (I' := I) (Fr' := Fr') (md := 1) ⟨s6, s4, itR_f (σ := σ) (τ := τ) hc9 (fW_tr f1 f2) I _ (fun p hp => ?_) w3, frR_f (σ := σ) (τ := τ) Fr' b0 (fun p hp => ?_) fr6, ?_, ?_⟩ hk (by omega) (by omega) (by omega)⟩
  · refine ⟨?_, ?_, ?_, ?_⟩
    · rw [zA_I, zA_A, if_neg (by omega)]; rfl
    · rw [zA_I, zA_A, if_neg (by omega)]; rfl
    · rw [zA_I, zA_I, zA_I, zA_A, if_neg (by omega)]
    · rw [zA_I, zA_I, zA_I, zA_A, if_neg (by omega)]
  · refine ⟨?_, ?_, ?_⟩
    · rw [zA_I, zA_I, zA_I, zA_A, if_neg (by omega)]
    · rw [zA_I, zA_I, zA_I, zA_A, if_neg (by omega)]
    · rw [zA_I, zA_A, if_neg (by omega)]; rfl
  · exact TPr_w (fun k hk => by rw [zI_I, if_neg (by omega), zI_A, zI_I, if_neg (by omega), zI_I, if_neg (by omega)]) (fun j hj => by rw [zI_I, if_neg (by omega), zI_I, if_neg (by omega), zI_I, if_neg (by omega), zI_A]) (fun a i ha => by rw [zA_I, zA_A, if_neg (by omega)]; rfl) (fun a i ha => by rw [zA_I, zA_I, zA_I, zA_A, if_neg (by omega)]) w5
  · exact TAt_w (fun k hk => by rw [zI_I, if_neg (by omega), zI_A, zI_I, if_neg (by omega), zI_I, if_neg (by omega)]) (by rw [zI_I, if_neg (by omega), zI_I, if_neg (by omega), zI_I, if_neg (by omega), zI_A]) w6
/-- a row goes on -/
theorem t8 {t r : fT} (h : BX ln mc io c P m vl lc gb n e I b0 g Fr' σ τ) (hw : wfg P g (fC t r) 2 0) (hr : rp P τ (fC t r) i) (hp : cp P c σ (npF P g) (fC t r) j) (hk : okW P I 0 n (g :: Fr'.map Prod.snd)) : ∃ σ' τ', fX10_goAlong ln N M j σ = some ((), σ') ∧ fX12_takesItem N 7 i τ = some ((), τ') ∧ WO P m c mc io σ τ σ' τ' := by
  obtain ⟨E, W, hg, hb, hl⟩ := h
  obtain ⟨e1, e2, -⟩ := id E
  have hc9 := e2.1
  have hmc := e1.2.2.2.2.2.2.2.2.2.1
  obtain ⟨hwt, hwr⟩ := wB_c hw
  obtain ⟨a, rfl, ha, a1, a2⟩ := rp_C hr
  obtain ⟨b, rfl, hb2, b1, b2⟩ := cp_C hp
  unfold fX10_goAlong fX10_goAlong_b31
  rw [rbT e2.1 e2.2.1, rbT e2.1 e2.2.1, (tkC e2 hb2).2.2.2.2.2.1, obd_s]
  have hR : fX12_takesItem N 7 (nI a) τ = (if (zA τ 21 a) < 0 then fX12_takesItem_b155 N (nI a) τ else obd (fX12_push N (7 : Int32) (zA τ 21 a) τ) (fun _ σ22 => fX12_takesItem_b155 N (nI a) σ22)) := by
    have h0 : fX12_takesItem N 7 (nI a) τ = (if (nI a) < 0 ∨ 4200 ≤ (nI a).toNatClampNeg then none else (if (zA τ 21 (nI a).toNatClampNeg) < 0 then fX12_takesItem_b155 N (nI a) τ else (if (nI a) < 0 ∨ 4200 ≤ (nI a).toNatClampNeg then none else (obd (fX12_push N (7 : Int32) (zA τ 21 (nI a).toNatClampNeg) τ) (fun _ σ22 => fX12_takesItem_b155 N (nI a) σ22))))) := rfl
    rw [h0, nI_clamp (by omega), if_neg (ixN (by omega) (by omega)), if_neg (ixN (by omega) (by omega))]
  rw [hR]
  unfold fX12_takesItem_b155
  rcases wf2_c r hwr with hz | ⟨t', r', rfl⟩
  · obtain ⟨σ1, τ1, p1, p2, p3, f1, f2⟩ := pushT (N := N) (M := M) (q := 2) e1 (by omega) W e2.1 (by omega) rfl a1 b1
    have p1' : fX10_pushItem ln N M 0 (nI b) σ = some ((), σ1) := p1
    have p2' : fX12_push N 8 (nI a) τ = some ((), τ1) := p2
    rw [cp_Z hz b2, rp_Z hz a2, thN, obd_s, if_pos rfl, if_pos (by decide), p1', obd_s, p2', obd_s]
    exact ⟨_, _, rfl, rfl, WO_ok f1 f2 p3 (md := 0) (Or.inr (Or.inr ⟨g, _, rfl, hg, Or.inr (Or.inr (Or.inr (Or.inr (Or.inr (Or.inr (Or.inl ⟨rfl, rfl, hwt, hk⟩))))))⟩)) (by omega) (by rw [List.length_cons]; omega) (by omega)⟩
  · obtain ⟨a', ea, ha', -, -⟩ := rp_C a2
    obtain ⟨b', eb, hb', -, -⟩ := cp_C b2
    obtain ⟨σ1, τ1, p1, p2, p3, f1, f2⟩ := pushT (N := N) (M := M) (q := 8) e1 (by omega) W e2.1 (by omega) rfl a2 b2
    obtain ⟨σ2, τ2, q1, q2, q3, f3, f4⟩ := pushT (N := N) (M := M) (q := 2) e1 (by rw [List.length_cons]; omega) p3 e2.1 (by omega) rfl (rp_f (fun r s r1 r2 => f2.2.1 r s (by omega) (by omega)) a1) (cp_f e2.1 (fun r s r1 r2 => f1.2.2.2.1 r s (by omega) (by omega)) b1)
    have p1' : fX10_pushItem ln N M 5 (zA σ (6 * c - 16) b) σ = some ((), σ1) := p1
    have p2' : fX12_push N 7 (zA τ 21 a) τ = some ((), τ1) := p2
    have q1' : fX10_pushItem ln N M 0 (nI b) σ1 = some ((), σ2) := q1
    have q2' : fX12_push N 8 (nI a) τ1 = some ((), τ2) := q2
    rw [show fX9_has ln N M (c + 2) (zA σ (6 * c - 16) b) σ = some (1, σ) by rw [eb]; exact (tkC e2 hb').2.2.2.2.2.2, obd_s, if_neg (by decide), rbT e2.1 e2.2.1, (tkC e2 hb2).2.2.2.2.2.1, obd_s, p1', obd_s, q1', obd_s, if_neg (by rw [ea]; exact nI_pos (by omega)), p2', obd_s, q2', obd_s]
    exact ⟨_, _, rfl, rfl, WO_ok (fWC_trans f1 f3) (fWR_trans f2 f4) q3 (md := 0) (Or.inr (Or.inr ⟨g, _, rfl, hg, Or.inr (Or.inr (Or.inr (Or.inr (Or.inr (Or.inr (Or.inl ⟨rfl, rfl, hwt, Or.inr (Or.inr ⟨g, _, rfl, hg, Or.inr (Or.inr (Or.inr (Or.inr (Or.inr (Or.inr (Or.inr (Or.inr ⟨rfl, rfl, ⟨t', r', rfl⟩, hwr, hk⟩)))))))⟩)⟩))))))⟩)) (by omega) (by rw [List.length_cons, List.length_cons]; omega) (by omega)⟩
/-- a FUNCTION's body -/
theorem t3 (h : BX ln mc io c P m vl lc gb n e I b0 g Fr' σ τ) (hk : okW P I 0 n (g :: Fr'.map Prod.snd)) : ∃ σ' τ', fX10_openRow ln N M (nI (nst P g)) σ = some ((), σ') ∧ fX12_states N (zA τ 11 g) τ = some ((), τ') ∧ WO P m c mc io σ τ σ' τ' := by
  obtain ⟨E, W, hg, hb, hl⟩ := id h
  obtain ⟨q, A, r, f1, f2, f3, f4, f5, f6, f7, f8, f9⟩ := E.2.2.2.2.2.2.2.2.2 g hg
  have hPM := E.2.2.2.2.2.2.2.2.1
  obtain ⟨k1, k2, k3, k4⟩ := E.2.2.2.2.2.2.2.1.1.1 g hg
  rw [f3] at k4
  have hrep : rp P τ (fN 20 0 0 A fZ fZ) (zA τ 11 g) := by
    have := (hPM.2.2 g hg.1 hg.2).1
    rw [f3] at this
    exact rp_mk this (fun u hp => by
      have := (hp.2.2 g hg.1 hg.2).1
      rw [f3] at this
      exact ⟨_, _, this⟩)
  have hnp : q = npF P g := by
    unfold npF
    rw [f1, nI_clamp (by omega)]
  have hwA : wfg P g A 2 0 := by
    rcases wS_c k4 with x | x | x | x | x | x | x | x | x
    · exact x.2
    all_goals exact absurd x (by omega)
  have hn1 := nst_s (P := P) hg.2
  have hn2 := nst_mono (P := P) (show g + 1 ≤ P.1.2.2.2.2 from hg.1)
  rw [f3, cN_N] at hn1
  have hcp : cp P c σ (npF P g) A (zA σ (6 * c - 19) (nst P g)) := ⟨_, _, hn2, by rw [← hnp, f6]; exact f9⟩
  obtain ⟨a, ea, ha, a1, a2, a3, a4, -⟩ := rp_N hrep
  obtain ⟨σ', τ', r1, r2, r3⟩ := row (N := N) (M := M) h (show nst P g < nst P P.1.2.2.2.2 by omega) ha hwA a4 hcp hk
  refine ⟨σ', τ', r1, ?_, r3⟩
  unfold fX12_states
  rw [ea, nI_clamp (by omega), if_neg (ixN (by omega) (by omega)), a1, bnd_e, if_pos (show nI 20 = 20 from rfl), if_neg (ixN (by omega) (by omega))]
  exact r2
/-- a value is let go -/
theorem t10 (h : BX ln mc io c P m vl lc gb (n + 1) e I b0 g Fr' σ τ) (hk : okW P I 0 n (g :: Fr'.map Prod.snd)) : ∃ σ' τ', obd (fX10_popValue ln N M σ) (fun _ σ23 => some ((), σ23)) = some ((), σ') ∧ obd (fX12_goes N τ) (fun _ σ28 => some ((), σ28)) = some ((), τ') ∧ WO P m c mc io σ τ σ' τ' := by
  obtain ⟨E, W, hg, hb, hl⟩ := h
  obtain ⟨e1, e2, -⟩ := id E
  have hmc := e1.2.2.2.2.2.2.2.2.2.1
  obtain ⟨σ1, τ1, p1, p2, p3, f1, f2⟩ := popV (N := N) (M := M) e1 (by omega) W e2.1
  rw [p1, p2, obd_s, obd_s]
  exact ⟨_, _, rfl, rfl, WO_ok f1 f2 p3 hk (by omega) (by omega) (by omega)⟩
end
