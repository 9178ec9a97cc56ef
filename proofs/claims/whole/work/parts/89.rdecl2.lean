/-! THE REFERENCE'S READER: steps of a declaration -/
theorem namedG {N : Nat} {x : Nat → Int32} {n tc : Nat} {G : gE} {w : Int64} {τ : zSt} (h : rGt x n tc G τ) (h22 : zI τ 0 22 = nI G.2.2.2.2) (hL : G.2.2.2.2 ≤ 1400) (hN : 2000 ≤ N) : fX12_named N w τ = some (ixI (lkN G.1 w G.2.2.2.2), τ) := by
  unfold fX12_named
  rw [bnd_e, h22]
  exact namR hL (fun j hj => (h.2.2 j hj).1) _ _ (Nat.le_refl _) (by omega)
theorem PV_n {x : Nat → Int32} {n tc : Nat} {P : yP} {tk t1 : yTok} {c nd : Nat} {τ : zSt} (hc : cm x n tk = .ok t1) (h : PV x n tc P tk c nd τ) : PV x n tc P t1 c nd (nxS x n tk.1 τ) := by
  obtain ⟨⟨⟨s1, s2, s3⟩, g1, g3⟩, h22, t1', h1, h2, h3, h4, h5, h6, h7⟩ := h
  have hf : ∀ j, ¬ (j = 17 ∨ j = 18 ∨ j = 19) → zI (nxS x n tk.1 τ) 0 j = zI τ 0 j := fun j hj => nxS_I hj
  refine ⟨⟨⟨(hf 16 (by omega)).trans s1, s2, fun j hj => nxS_A.trans (s3 j hj)⟩, (hf 3 (by omega)).trans g1, fun g hg => ?_⟩, (hf 22 (by omega)).trans h22, by rw [(cm_k hc).1]; exact rT_nx, (hf 21 (by omega)).trans h1, (hf 36 (by omega)).trans h2, (hf 37 (by omega)).trans h3, (hf 38 (by omega)).trans h4, (hf 29 (by omega)).trans h5, fun g hg hk => ?_, h7⟩
  · rw [nxS_B, nxS_A, nxS_A, nxS_A]
    exact g3 g hg
  · obtain ⟨q1, q2⟩ := h6 g hg hk
    rw [nxS_A, nxS_A]
    exact ⟨rep_frame _ _ _ _ (fun m hm => ⟨hm, fun a _ _ => nxS_A⟩) q1, q2⟩
/-- fields 36, 37 set -/
theorem PV_36 {x : Nat → Int32} {n tc : Nat} {P : yP} {tk : yTok} {c c1 nd : Nat} {τ : zSt} (h : PV x n tc P tk c nd τ) : PV x n tc P tk c1 nd (zsI τ 0 36 (nI c1)) := by
  obtain ⟨⟨⟨s1, s2, s3⟩, g1, g3⟩, h22, t1, h1, h2, h3, h4, h5, h6, h7⟩ := h
  have hf : ∀ j, j ≠ 36 → zI (zsI τ 0 36 (nI c1)) 0 j = zI τ 0 j := fun j hj => by rw [zI_I, if_neg (by omega)]
  refine ⟨⟨⟨(hf 16 (by omega)).trans s1, s2, s3⟩, (hf 3 (by omega)).trans g1, g3⟩, (hf 22 (by omega)).trans h22, ?_, (hf 21 (by omega)).trans h1, by rw [zI_I, if_pos ⟨rfl, rfl⟩], (hf 37 (by omega)).trans h3, (hf 38 (by omega)).trans h4, (hf 29 (by omega)).trans h5, fun g hg hk => ?_, h7⟩
  · unfold rT; rw [hf 17 (by omega), hf 18 (by omega), hf 19 (by omega)]; exact t1
  · obtain ⟨q1, q2⟩ := h6 g hg hk
    exact ⟨rep_frame _ _ _ _ (fun m hm => ⟨hm, fun a _ _ => rfl⟩) q1, q2⟩
/-- a FUNCTION more -/
def pFun (P : yP) (w : Int64) (L : lE) (r : fT) (ms : Nat) : yP := (gAdd P.1 w 2 (nI P.2.2.1) (nI L.2.2), P.2.1, P.2.2.1 + (6 + (gl r).2), (fun i => if i = P.1.2.2.2.2 then fN 20 0 0 r fZ fZ else P.2.2.2.1 i), (fun i => if i = P.1.2.2.2.2 then ms else P.2.2.2.2 i))
theorem PV_fn {x : Nat → Int32} {n tc : Nat} {P : yP} {w : Int64} {L : lE} {r : fT} {tk tk' : yTok} {c c' nd nd' ms : Nat} {τ z : zSt} (hP : PV x n tc P tk c nd τ) (q1 : SV x n tc (gAdd P.1 w 2 (nI P.2.2.1) (nI L.2.2)) (lPlace L) tk' c' 0 nd' z) (q3 : nd + 1 ≤ nd') (q4 : zA z 11 P.1.2.2.2.2 = nI nd) (q5 : zA z 12 P.1.2.2.2.2 = nI ms) (q6 : rep z (fN 20 0 0 r fZ fZ) nd nd' (nI nd))
    (q9 : zI z 0 29 = zI (tfS τ P.1.2.2.2.2 w) 0 29) (q10 : ∀ a i, 15 ≤ a → a ≤ 21 → i < nd → zA z a i = zA (tfS τ P.1.2.2.2.2 w) a i) (q11 : ∀ i, i < P.1.2.2.2.2 → zA z 11 i = zA (tfS τ P.1.2.2.2.2 w) 11 i ∧ zA z 12 i = zA (tfS τ P.1.2.2.2.2 w) 12 i) : PV x n tc (pFun P w L r ms) tk' c' nd' z := by
  obtain ⟨hS, hT, h21, h36, h37, h38⟩ := q1
  obtain ⟨s1, s2, s3, s4, _⟩ := hS
  obtain ⟨g0, h22, t1', h1, h2, h3, h4, h5, h6, h7⟩ := hP
  have hcg : ∀ m, m ≤ P.1.2.2.2.2 → nst (pFun P w L r ms) m = nst P m := by
    intro m hm
    apply nst_cong
    intro g hg
    have e : ¬ g = P.1.2.2.2.2 := by omega
    unfold pFun
    simp only [gAdd, if_neg e, true_and]
    exact fun _ => trivial
  have hcnt := rep_cnt _ _ _ _ q6
  refine ⟨⟨s1, s2, s4⟩, s3, hT, h21, h36, h37, h38, ?_, fun g hg hk => ?_, ?_⟩
  · rw [q9, tfS_I (by omega)]; exact h5
  · by_cases e : g = P.1.2.2.2.2
    · subst e
      refine ⟨?_, ?_⟩
      · show rep z (if P.1.2.2.2.2 = P.1.2.2.2.2 then fN 20 0 0 r fZ fZ else P.2.2.2.1 P.1.2.2.2.2) _ _ _
        rw [if_pos rfl, q4]
        rw [hcg _ (Nat.le_refl _), ← h7]
        show rep z _ nd (nd + cN (if P.1.2.2.2.2 = P.1.2.2.2.2 then fN 20 0 0 r fZ fZ else P.2.2.2.1 P.1.2.2.2.2)) _
        rw [if_pos rfl, ← hcnt]
        exact q6
      · show _ = nI (if P.1.2.2.2.2 = P.1.2.2.2.2 then ms else P.2.2.2.2 P.1.2.2.2.2)
        rw [if_pos rfl, q5]
    · have hg2 : g < P.1.2.2.2.2 + 1 := hg
      have hg3 : g < P.1.2.2.2.2 := by omega
      have hk2 : (if g = P.1.2.2.2.2 then (2 : Int32) else P.1.2.1 g) = 2 := hk
      rw [if_neg e] at hk2
      obtain ⟨a1, a2⟩ := h6 g hg3 hk2
      obtain ⟨b1, b2⟩ := q11 g hg3
      rw [tfS_A (by omega)] at b1 b2
      refine ⟨?_, ?_⟩
      · show rep z (if g = P.1.2.2.2.2 then fN 20 0 0 r fZ fZ else P.2.2.2.1 g) _ _ _
        rw [if_neg e, b1]
        rw [hcg g (by omega)]
        show rep z _ (nst P g) (nst P g + cN (if g = P.1.2.2.2.2 then fN 20 0 0 r fZ fZ else P.2.2.2.1 g)) _
        rw [if_neg e]
        have hmn := nst_mono (P := P) (show g + 1 ≤ P.1.2.2.2.2 by omega)
        rw [nst_s hk2, ← h7] at hmn
        exact rep_frame _ _ _ _ (fun m hm => ⟨hm, fun a ha1 ha2 => (q10 a m ha1 ha2 (by omega)).trans (tfS_A (by omega))⟩) a1
      · show _ = nI (if g = P.1.2.2.2.2 then ms else P.2.2.2.2 g)
        rw [if_neg e, b2]
        exact a2
  · show nd' = nst (pFun P w L r ms) (P.1.2.2.2.2 + 1)
    have e2 : (pFun P w L r ms).1.2.1 P.1.2.2.2.2 = 2 := by unfold pFun; simp only [gAdd, if_true]
    rw [nst_s e2, hcg _ (Nat.le_refl _), ← h7]
    show nd' = nd + cN (if P.1.2.2.2.2 = P.1.2.2.2.2 then fN 20 0 0 r fZ fZ else P.2.2.2.1 P.1.2.2.2.2)
    rw [if_pos rfl]
    exact hcnt
