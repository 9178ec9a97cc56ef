/-! THE TEXT BY ITSELF: an E is taken apart -/
theorem locA {np K : Nat} {v : Int} (hv : plOk np K v) (hK : K ≤ 4096) (hn : np ≤ 8) : ∃ d, d < np + K ∧ inF np v = nI d ∧ ∀ b, (if 0 ≤ Int32.ofInt v then nI b + (nI np + Int32.ofInt v) else nI b + (Int32.ofInt v + 2 + nI np)) = nI (b + d) := by
  rcases hv with ⟨h1, h2⟩ | ⟨h1, h2⟩
  · refine ⟨v.toNat + np, by omega, ?_, fun b => ?_⟩
    · unfold inF
      rw [if_pos h1, ofInt_n h1, nI_add]
    · rw [ofInt_n h1, if_pos (nI_ixge (by omega)), nI_add, nI_add, show np + v.toNat = v.toNat + np by omega]
  · have hneg : ¬ (0 : Int32) ≤ Int32.ofInt v := by
      have : v = -3 ∨ v = -4 ∨ v = -5 ∨ v = -6 ∨ v = -7 ∨ v = -8 ∨ v = -9 ∨ v = -10 := by omega
      rcases this with e | e | e | e | e | e | e | e <;> subst e <;> decide
    have hs : Int32.ofInt v + 2 + nI np = nI (v + 2 + np).toNat := by
      rw [← ofInt_n (show 0 ≤ v + 2 + (np : Int) by omega), show nI np = Int32.ofInt (np : Int) from rfl, show (2 : Int32) = Int32.ofInt 2 from rfl, ← Int32.ofInt_add, ← Int32.ofInt_add]
    refine ⟨(v + 2 + np).toNat, by omega, ?_, fun b => ?_⟩
    · unfold inF
      rw [if_neg (by omega), hs]
    · rw [if_neg hneg, hs, nI_add]
/-- an item has been taken, FUNCTION g is the innermost -/
def BX (ln : Nat → Nat) (mc io c : Nat) (P : yP) (m : Nat) (vl lc gb : Nat → Int32) (n e : Nat) (I : List aI) (b0 g : Nat) (Fr' : List (Nat × Nat)) (σ τ : zSt) : Prop := WEN ln mc io c P m σ τ ∧ WI P m c io vl lc gb n e I ((b0, g) :: Fr') σ τ ∧ isF P g ∧ n + I.length + 1 + P.2.1 + e ≤ mc ∧ (((b0, g) :: Fr').map Prod.snd).length ≤ I.length + 1
section
variable {ln : Nat → Nat} {N M mc io c m n e b0 g : Nat} {P : yP} {vl lc gb : Nat → Int32} {I : List aI} {Fr' : List (Nat × Nat)} {σ τ : zSt} {A B D : fT} {v w : Int} {i j : Int32}
def EXo (ln : Nat → Nat) (N M : Nat) (P : yP) (m c mc io : Nat) (i j : Int32) (σ τ : zSt) : Prop := ∃ σ' τ', fX10_takeApart ln N M j σ = some ((), σ') ∧ fX12_begins N i τ = some ((), τ') ∧ WO P m c mc io σ τ σ' τ'
/-- the cell of a LOCAL -/
theorem locC (h : BX ln mc io c P m vl lc gb n e I b0 g Fr' σ τ) (hv : plOk (npF P g) (P.2.2.2.2 g) v) : ∃ a, a < e ∧ e ≤ mc ∧ mc ≤ 4096 ∧ fX10_cellOf ln N M (inF (npF P g) v) σ = some (nI a, σ) ∧ fX12_where N (Int32.ofInt v) τ = some (nI a, τ) := by
  obtain ⟨⟨e1, e2, e3, e4, e5, e6, e7, e8, e9, e10⟩, ⟨w1, w2, w3, w4, w5, w6⟩, hg, hb, hl⟩ := h
  obtain ⟨r1, r2, r3, r4, r5, r6⟩ := w4
  obtain ⟨k1, k2, k3, k4⟩ := e8.1.1 g hg
  have hmc := e1.2.2.2.2.2.2.2.2.2.1
  obtain ⟨d, d1, d2, d3⟩ := locA hv k1 k2
  have hlen : Fr'.length + 1 ≤ I.length + 1 := by rw [List.length_map, List.length_cons] at hl; exact hl
  have h10 : zA τ 10 g = nI (npF P g) := (e9.2.1 g hg.1).2.2.trans k3
  have hg5 := e8.2.2.2.2.2
  have hgl := hg.1
  refine ⟨b0 + d, by omega, by omega, hmc, ?_, ?_⟩
  · rw [d2, wceC (b := b0) e1 w1 (by omega) r5, nI_add]
  · rw [wwhR (b := b0) (f := g) (np := npF P g) w2 (by omega) r3 r4 (by omega) h10, d3]
theorem x1 (h : BX ln mc io c P m vl lc gb n e I b0 g Fr' σ τ) (hr : rp P τ (fN 1 v w A B D) i) (hp : cp P c σ (npF P g) (fN 1 v w A B D) j) (hk : okW P I 1 (n + 1) (g :: Fr'.map Prod.snd)) : EXo ln N M P m c mc io i j σ τ := by
  obtain ⟨E, W, hg, hb, hl⟩ := h
  obtain ⟨e1, e2, -⟩ := id E
  have hmc := e1.2.2.2.2.2.2.2.2.2.1
  obtain ⟨a, rfl, ha, a1, a2, -⟩ := rp_N hr
  obtain ⟨b, rfl, hb2, b1, b2, -⟩ := cp_N hp
  obtain ⟨σ', τ', p1, p2, p3, f1, f2⟩ := pushV (N := N) (M := M) (v := Int32.ofInt v) e1 (by omega) W e2.1
  refine ⟨σ', τ', ?_, ?_, WO_ok f1 f2 p3 hk (by omega) (by omega) (by omega)⟩
  · unfold fX10_takeApart
    rw [rbT e2.1 e2.2.1, (tkC e2 hb2).1, obd_s, b1, show cKd 1 = 1 from rfl, if_pos rfl, rbT e2.1 e2.2.1, (tkC e2 hb2).2.1, obd_s, b2, show cVa (fun g => nI (nst P g)) (npF P g) 1 v = Int32.ofInt v from rfl, p1, obd_s]
  · unfold fX12_begins
    rw [nI_clamp (by omega), if_neg (ixN (by omega) (by omega)), a1, bnd_e, show nI 1 = 1 from rfl, if_pos rfl, if_neg (ixN (by omega) (by omega)), a2, p2, obd_s]
theorem x2 (h : BX ln mc io c P m vl lc gb n e I b0 g Fr' σ τ) (hr : rp P τ (fN 2 v w A B D) i) (hp : cp P c σ (npF P g) (fN 2 v w A B D) j) (h0 : 0 ≤ v) (h1 : v < P.2.1) (hk : okW P I 1 (n + 1) (g :: Fr'.map Prod.snd)) : EXo ln N M P m c mc io i j σ τ := by
  obtain ⟨E, W, hg, hb, hl⟩ := h
  obtain ⟨e1, e2, -⟩ := id E
  have hmc := e1.2.2.2.2.2.2.2.2.2.1
  obtain ⟨a, rfl, ha, a1, a2, -⟩ := rp_N hr
  obtain ⟨b, rfl, hb2, b1, b2, -⟩ := cp_N hp
  rw [ofInt_n h0] at a2
  have b2' : zA σ (6 * c - 20) b = nI v.toNat := by rw [← ofInt_n h0]; exact b2
  obtain ⟨σ', τ', p1, p2, p3, f1, f2⟩ := pushV (N := N) (M := M) (v := gb v.toNat) e1 (by omega) W e2.1
  refine ⟨σ', τ', ?_, ?_, WO_ok f1 f2 p3 hk (by omega) (by omega) (by omega)⟩
  · unfold fX10_takeApart
    rw [rbT e2.1 e2.2.1, (tkC e2 hb2).1, obd_s, b1, show cKd 2 = 2 from rfl, if_neg (by decide), if_pos rfl, rbT e2.1 e2.2.1, (tkC e2 hb2).2.1, obd_s, b2', wgaC e1 W.1 (by omega) (by omega), obd_s, p1, obd_s]
  · unfold fX12_begins
    rw [nI_clamp (by omega), if_neg (ixN (by omega) (by omega)), a1, bnd_e, show nI 2 = 2 from rfl, if_neg (by decide), if_pos rfl, if_neg (ixN (by omega) (by omega)), a2, nI_clamp (by omega), if_neg (ixN (by omega) (by omega)), W.2.1.2.2.2.2.2.2.1 _ (by omega), p2, obd_s]
theorem x3 (h : BX ln mc io c P m vl lc gb n e I b0 g Fr' σ τ) (hr : rp P τ (fN 3 v w A B D) i) (hp : cp P c σ (npF P g) (fN 3 v w A B D) j) (hv : plOk (npF P g) (P.2.2.2.2 g) v) (hk : okW P I 1 (n + 1) (g :: Fr'.map Prod.snd)) : EXo ln N M P m c mc io i j σ τ := by
  obtain ⟨q, q1, q2, q3, q4, q5⟩ := locC (N := N) (M := M) h hv
  obtain ⟨E, W, hg, hb, hl⟩ := h
  obtain ⟨e1, e2, -⟩ := id E
  have hmc := e1.2.2.2.2.2.2.2.2.2.1
  obtain ⟨a, rfl, ha, a1, a2, -⟩ := rp_N hr
  obtain ⟨b, rfl, hb2, b1, b2, -⟩ := cp_N hp
  have b2' : zA σ (6 * c - 20) b = inF (npF P g) v := b2
  obtain ⟨σ', τ', p1, p2, p3, f1, f2⟩ := pushV (N := N) (M := M) (v := lc q) e1 (by omega) W e2.1
  refine ⟨σ', τ', ?_, ?_, WO_ok f1 f2 p3 hk (by omega) (by omega) (by omega)⟩
  · unfold fX10_takeApart fX10_localAt
    rw [rbT e2.1 e2.2.1, (tkC e2 hb2).1, obd_s, b1, show cKd 3 = 3 from rfl, if_neg (by decide), if_neg (by decide), if_pos rfl, rbT e2.1 e2.2.1, (tkC e2 hb2).2.1, obd_s, b2', q4, obd_s, e1.2.2.2.2.2.2.2.1, if_neg (nI_pos (by omega)), if_neg (fun w => by rw [nI_le' (by omega) (by omega)] at w; omega), nI_clamp (by omega), if_neg (ixN (by omega) (by omega)), W.1.2.2.2.2.2.1 q q1, obd_s, p1, obd_s]
  · unfold fX12_begins
    rw [nI_clamp (by omega), if_neg (ixN (by omega) (by omega)), a1, bnd_e, show nI 3 = 3 from rfl, if_neg (by decide), if_neg (by decide), if_pos rfl, if_neg (ixN (by omega) (by omega)), a2, q5, obd_s, nI_clamp (by omega), if_neg (ixN (by omega) (by omega)), W.2.1.2.2.2.2.2.1 q q1, p2, obd_s]
/-- one part, then something is done -/
theorem x45 {k : Nat} (hk4 : k = 4 ∨ k = 5) (h : BX ln mc io c P m vl lc gb n e I b0 g Fr' σ τ) (hw : wfg P g (fN k v w A B D) 0 0) (hwA : wfg P g A 0 0) (hr : rp P τ (fN k v w A B D) i) (hp : cp P c σ (npF P g) (fN k v w A B D) j) (hk : okW P I 1 (n + 1) (g :: Fr'.map Prod.snd)) : EXo ln N M P m c mc io i j σ τ := by
  obtain ⟨E, W, hg, hb, hl⟩ := h
  obtain ⟨e1, e2, -⟩ := id E
  have hmc := e1.2.2.2.2.2.2.2.2.2.1
  obtain ⟨a, rfl, ha, a1, a2, a3, a4, -⟩ := rp_N hr
  obtain ⟨b, rfl, hb2, b1, b2, -, b3, -⟩ := cp_N hp
  obtain ⟨σ1, τ1, p1, p2, p3, f1, f2⟩ := pushT (N := N) (M := M) (q := 4) e1 (by omega) W e2.1 (by omega) rfl hr hp
  obtain ⟨σ2, τ2, q1, q2, q3, f3, f4⟩ := pushT (N := N) (M := M) (q := 1) e1 (by rw [List.length_cons]; omega) p3 e2.1 (by omega) rfl (rp_f (fun r s r1 r2 => f2.2.1 r s (by omega) (by omega)) a4) (cp_f e2.1 (fun r s r1 r2 => f1.2.2.2.1 r s (by omega) (by omega)) (b3 (by omega)))
  refine ⟨σ2, τ2, ?_, ?_, WO_ok (fWC_trans f1 f3) (fWR_trans f2 f4) q3 (md := 1) (Or.inr (Or.inr ⟨g, _, rfl, hg, Or.inl ⟨rfl, rfl, hwA, Or.inr (Or.inr ⟨g, _, rfl, hg, Or.inr (Or.inl ⟨rfl, rfl, hw, k, v, w, A, B, D, rfl, Or.inl ⟨hk4, by omega, hk⟩⟩)⟩)⟩⟩)) (by omega) (by rw [List.length_cons, List.length_cons]; omega) (by omega)⟩
  · have e21 := TRc_f f1 e2
    have hbo : fX9_bOf ln N M (c + 2) (nI b) σ1 = some (zA σ (6 * c - 19) b, σ1) := by rw [(tkC e21 hb2).2.2.1, f1.2.2.2.1 _ _ (by have := e2.1; omega) (by have := e2.1; omega)]
    unfold fX10_takeApart
    rw [rbT e2.1 e2.2.1, (tkC e2 hb2).1, obd_s, b1]
    have p1' : fX10_pushItem ln N M 1 (nI b) σ = some ((), σ1) := p1
    have q1' : fX10_pushItem ln N M 0 (zA σ (6 * c - 19) b) σ1 = some ((), σ2) := q1
    rcases hk4 with e | e
    · subst e
      rw [show cKd 4 = 4 from rfl, if_neg (by decide), if_neg (by decide), if_neg (by decide), if_pos rfl, p1', obd_s, rbT e21.1 e21.2.1, hbo, obd_s, q1', obd_s]
    · subst e
      rw [show cKd 5 = 6 from rfl, if_neg (by decide), if_neg (by decide), if_neg (by decide), if_neg (by decide), if_neg (by decide), if_pos rfl, p1', obd_s, rbT e21.1 e21.2.1, hbo, obd_s, q1', obd_s]
  · have p2' : fX12_push N 3 (nI a) τ = some ((), τ1) := p2
    have q2' : fX12_push N 2 (zA τ1 16 a) τ1 = some ((), τ2) := by rw [f2.2.1 16 a (by omega) (by omega)]; exact q2
    unfold fX12_begins
    rw [nI_clamp (by omega), if_neg (ixN (by omega) (by omega)), a1, bnd_e]
    rcases hk4 with e | e
    · subst e
      rw [show nI 4 = 4 from rfl, if_neg (by decide), if_neg (by decide), if_neg (by decide), if_pos rfl, p2', obd_s, if_neg (ixN (by omega) (by omega)), q2', obd_s]
    · subst e
      rw [show nI 5 = 5 from rfl, if_neg (by decide), if_neg (by decide), if_neg (by decide), if_neg (by decide), if_pos rfl, p2', obd_s, if_neg (ixN (by omega) (by omega)), q2', obd_s]
theorem x6 (h : BX ln mc io c P m vl lc gb n e I b0 g Fr' σ τ) (hw : wfg P g (fN 6 v w A B D) 0 0) (hwA : wfg P g A 0 0) (hwB : wfg P g B 0 0) (hv : (10 ≤ v ∧ v ≤ 23) ∨ v = 27 ∨ v = 28) (hr : rp P τ (fN 6 v w A B D) i) (hp : cp P c σ (npF P g) (fN 6 v w A B D) j) (hk : okW P I 1 (n + 1) (g :: Fr'.map Prod.snd)) : EXo ln N M P m c mc io i j σ τ := by
  obtain ⟨E, W, hg, hb, hl⟩ := h
  obtain ⟨e1, e2, -⟩ := id E
  have hc9 := e2.1
  have hmc := e1.2.2.2.2.2.2.2.2.2.1
  obtain ⟨a, rfl, ha, a1, a2, a3, a4, a5, -⟩ := rp_N hr
  obtain ⟨b, rfl, hb2, b1, b2, -, b3, -, -, b4, -⟩ := cp_N hp
  obtain ⟨σ1, τ1, p1, p2, p3, f1, f2⟩ := pushT (N := N) (M := M) (q := 4) e1 (by omega) W e2.1 (by omega) rfl hr hp
  obtain ⟨σ2, τ2, q1, q2, q3, f3, f4⟩ := pushT (N := N) (M := M) (q := 1) e1 (by rw [List.length_cons]; omega) p3 e2.1 (by omega) rfl (rp_f (fun r s r1 r2 => f2.2.1 r s (by omega) (by omega)) a5) (cp_f e2.1 (fun r s r1 r2 => f1.2.2.2.1 r s (by omega) (by omega)) (b4 (by omega) (by omega)))
  have g1 := fWC_trans f1 f3
  have g2 := fWR_trans f2 f4
  obtain ⟨σ3, τ3, s1, s2, s3, f5, f6⟩ := pushT (N := N) (M := M) (q := 1) e1 (by rw [List.length_cons, List.length_cons]; omega) q3 e2.1 (by omega) rfl (rp_f (fun r s r1 r2 => g2.2.1 r s (by omega) (by omega)) a4) (cp_f e2.1 (fun r s r1 r2 => g1.2.2.2.1 r s (by omega) (by omega)) (b3 (by omega)))
  refine ⟨σ3, τ3, ?_, ?_, WO_ok (fWC_trans g1 f5) (fWR_trans g2 f6) s3 (md := 1) (Or.inr (Or.inr ⟨g, _, rfl, hg, Or.inl ⟨rfl, rfl, hwA, Or.inr (Or.inr ⟨g, _, rfl, hg, Or.inl ⟨rfl, rfl, hwB, Or.inr (Or.inr ⟨g, _, rfl, hg, Or.inr (Or.inl ⟨rfl, rfl, hw, 6, v, w, A, B, D, rfl, Or.inr ⟨rfl, by omega, hk⟩⟩)⟩)⟩⟩)⟩⟩)) (by omega) (by rw [List.length_cons, List.length_cons, List.length_cons]; omega) (by omega)⟩
  · have e21 := TRc_f f1 e2
    have e22 := TRc_f g1 e2
    have ha1 : fX9_aOf ln N M (c + 2) (nI b) σ1 = some (Int32.ofInt v, σ1) := by rw [(tkC e21 hb2).2.1, f1.2.2.2.1 _ _ (by omega) (by omega), b2]; rfl
    have hc1 : fX9_cOf ln N M (c + 2) (nI b) σ1 = some (zA σ (6 * c - 18) b, σ1) := by rw [(tkC e21 hb2).2.2.2.1, f1.2.2.2.1 _ _ (by omega) (by omega)]
    have hb1 : fX9_bOf ln N M (c + 2) (nI b) σ2 = some (zA σ (6 * c - 19) b, σ2) := by rw [(tkC e22 hb2).2.2.1, g1.2.2.2.1 _ _ (by omega) (by omega)]
    have hv8 : Int32.ofInt v ≠ 8 := by
      rw [ofInt_n (show 0 ≤ v by omega)]
      intro w
      have := congrArg Int32.toInt w
      rw [nI_toInt (by omega)] at this
      have z8 : (8 : Int32).toInt = 8 := rfl
      omega
    have hv9 : Int32.ofInt v ≠ 9 := by
      rw [ofInt_n (show 0 ≤ v by omega)]
      intro w
      have := congrArg Int32.toInt w
      rw [nI_toInt (by omega)] at this
      have z8 : (9 : Int32).toInt = 9 := rfl
      omega
    have p1' : fX10_pushItem ln N M 1 (nI b) σ = some ((), σ1) := p1
    have q1' : fX10_pushItem ln N M 0 (zA σ (6 * c - 18) b) σ1 = some ((), σ2) := q1
    have s1' : fX10_pushItem ln N M 0 (zA σ (6 * c - 19) b) σ2 = some ((), σ3) := s1
    unfold fX10_takeApart fX10_takeTwoApart fX10_takeTwoApart_b45
    rw [rbT e2.1 e2.2.1, (tkC e2 hb2).1, obd_s, b1, show cKd 6 = 7 from rfl, if_neg (by decide), if_neg (by decide), if_neg (by decide), if_neg (by decide), if_neg (by decide), if_neg (by decide), if_pos rfl, p1', obd_s, rbT e21.1 e21.2.1, ha1, obd_s, if_neg hv8, rbT e21.1 e21.2.1, ha1, obd_s, if_neg hv9, rbT e21.1 e21.2.1, hc1, obd_s, q1', obd_s, rbT e22.1 e22.2.1, hb1, obd_s, s1', obd_s, obd_s]
  · have p2' : fX12_push N 3 (nI a) τ = some ((), τ1) := p2
    have q2' : fX12_push N 2 (zA τ1 17 a) τ1 = some ((), τ2) := by rw [f2.2.1 17 a (by omega) (by omega)]; exact q2
    have s2' : fX12_push N 2 (zA τ2 16 a) τ2 = some ((), τ3) := by rw [g2.2.1 16 a (by omega) (by omega)]; exact s2
    unfold fX12_begins
    rw [nI_clamp (by omega), if_neg (ixN (by omega) (by omega)), a1, bnd_e, show nI 6 = 6 from rfl, if_neg (by decide), if_neg (by decide), if_neg (by decide), if_neg (by decide), if_neg (by decide), if_pos rfl, p2', obd_s, if_neg (ixN (by omega) (by omega)), q2', obd_s, if_neg (ixN (by omega) (by omega)), s2', obd_s]
theorem x78 {k : Nat} (hk7 : k = 7 ∨ k = 8) (h : BX ln mc io c P m vl lc gb n e I b0 g Fr' σ τ) (hw : wfg P g (fN k v w A B D) 0 0) (hwA : wfg P g A 0 0) (hr : rp P τ (fN k v w A B D) i) (hp : cp P c σ (npF P g) (fN k v w A B D) j) (hk : okW P I 1 (n + 1) (g :: Fr'.map Prod.snd)) : EXo ln N M P m c mc io i j σ τ := by
  obtain ⟨E, W, hg, hb, hl⟩ := h
  obtain ⟨e1, e2, -⟩ := id E
  have hc9 := e2.1
  have hmc := e1.2.2.2.2.2.2.2.2.2.1
  obtain ⟨a, rfl, ha, a1, a2, a3, a4, -⟩ := rp_N hr
  obtain ⟨b, rfl, hb2, b1, b2, -, b3, -⟩ := cp_N hp
  obtain ⟨σ1, τ1, p1, p2, p3, f1, f2⟩ := pushT (N := N) (M := M) (q := 5) e1 (by omega) W e2.1 (by omega) rfl hr hp
  obtain ⟨σ2, τ2, q1, q2, q3, f3, f4⟩ := pushT (N := N) (M := M) (q := 1) e1 (by rw [List.length_cons]; omega) p3 e2.1 (by omega) rfl (rp_f (fun r s r1 r2 => f2.2.1 r s (by omega) (by omega)) a4) (cp_f e2.1 (fun r s r1 r2 => f1.2.2.2.1 r s (by omega) (by omega)) (b3 (by omega)))
  refine ⟨σ2, τ2, ?_, ?_, WO_ok (fWC_trans f1 f3) (fWR_trans f2 f4) q3 (md := 1) (Or.inr (Or.inr ⟨g, _, rfl, hg, Or.inl ⟨rfl, rfl, hwA, Or.inr (Or.inr ⟨g, _, rfl, hg, Or.inr (Or.inr (Or.inl ⟨rfl, rfl, hw, by omega, ⟨k, v, w, A, B, D, rfl, hk7⟩, hk⟩))⟩)⟩⟩)) (by omega) (by rw [List.length_cons, List.length_cons]; omega) (by omega)⟩
  · have e21 := TRc_f f1 e2
    have ha1 : fX9_aOf ln N M (c + 2) (nI b) σ1 = some (if k = 7 then 8 else 9, σ1) := by
      rw [(tkC e21 hb2).2.1, f1.2.2.2.1 _ _ (by omega) (by omega), b2]
      rcases hk7 with e | e <;> subst e <;> rfl
    have hb1 : fX9_bOf ln N M (c + 2) (nI b) σ1 = some (zA σ (6 * c - 19) b, σ1) := by rw [(tkC e21 hb2).2.2.1, f1.2.2.2.1 _ _ (by omega) (by omega)]
    have p1' : fX10_pushItem ln N M 1 (nI b) σ = some ((), σ1) := p1
    have q1' : fX10_pushItem ln N M 0 (zA σ (6 * c - 19) b) σ1 = some ((), σ2) := q1
    have hkd : cKd k = 7 := by rcases hk7 with e | e <;> subst e <;> rfl
    unfold fX10_takeApart fX10_takeTwoApart fX10_takeTwoApart_b45
    rw [rbT e2.1 e2.2.1, (tkC e2 hb2).1, obd_s, b1, hkd, if_neg (by decide), if_neg (by decide), if_neg (by decide), if_neg (by decide), if_neg (by decide), if_neg (by decide), if_pos rfl, p1', obd_s, rbT e21.1 e21.2.1, ha1, obd_s]
    rcases hk7 with e | e
    · subst e
      rw [if_pos rfl, if_pos rfl, rbT e21.1 e21.2.1, hb1, obd_s, q1', obd_s, obd_s]
    · subst e
      rw [if_neg (show ¬ 8 = 7 by decide), if_neg (by decide), rbT e21.1 e21.2.1, ha1, obd_s, if_neg (show ¬ 8 = 7 by decide), if_pos rfl, rbT e21.1 e21.2.1, hb1, obd_s, q1', obd_s, obd_s]
  · have p2' : fX12_push N 4 (nI a) τ = some ((), τ1) := p2
    have q2' : fX12_push N 2 (zA τ1 16 a) τ1 = some ((), τ2) := by rw [f2.2.1 16 a (by omega) (by omega)]; exact q2
    unfold fX12_begins
    rw [nI_clamp (by omega), if_neg (ixN (by omega) (by omega)), a1, bnd_e]
    rcases hk7 with e | e
    · subst e
      rw [show nI 7 = 7 from rfl, if_neg (by decide), if_neg (by decide), if_neg (by decide), if_neg (by decide), if_neg (by decide), if_neg (by decide), if_pos rfl, p2', obd_s, if_neg (ixN (by omega) (by omega)), q2', obd_s]
    · subst e
      rw [show nI 8 = 8 from rfl, if_neg (by decide), if_neg (by decide), if_neg (by decide), if_neg (by decide), if_neg (by decide), if_neg (by decide), if_neg (by decide), if_pos rfl, p2', obd_s, if_neg (ixN (by omega) (by omega)), q2', obd_s]
end
