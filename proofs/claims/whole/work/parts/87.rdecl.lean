/-! THE REFERENCE'S READER: declarations -/
/-- the first node of FUNCTION g -/
def nst (P : yP) : Nat → Nat
  | 0 => 0
  | g + 1 => nst P g + (if P.1.2.1 g = 2 then cN (P.2.2.2.1 g) else 0)
theorem nst_mono {P : yP} : ∀ {a b : Nat}, a ≤ b → nst P a ≤ nst P b := by
  intro a b h
  induction b with
  | zero => rw [show a = 0 by omega]; exact Nat.le_refl _
  | succ b ih =>
    by_cases e : a = b + 1
    · rw [e]; exact Nat.le_refl _
    · have h2 := ih (by omega)
      show nst P a ≤ nst P b + (if P.1.2.1 b = 2 then cN (P.2.2.2.1 b) else 0)
      exact Nat.le_trans h2 (Nat.le_add_right _ _)
theorem nst_s {P : yP} {g : Nat} (h : P.1.2.1 g = 2) : nst P (g + 1) = nst P g + cN (P.2.2.2.1 g) := by
  show nst P g + (if P.1.2.1 g = 2 then cN (P.2.2.2.1 g) else 0) = _
  rw [if_pos h]
theorem nst_cong {P Q : yP} : ∀ m, (∀ g, g < m → Q.1.2.1 g = P.1.2.1 g ∧ (P.1.2.1 g = 2 → Q.2.2.2.1 g = P.2.2.2.1 g)) → nst Q m = nst P m := by
  intro m
  induction m with
  | zero => intro _; rfl
  | succ m ih =>
    intro h
    have h1 := h m (by omega)
    unfold nst
    rw [ih (fun g hg => h g (by omega)), h1.1]
    by_cases e : P.1.2.1 m = 2
    · rw [if_pos e, if_pos e, h1.2 e]
    · rw [if_neg e, if_neg e]
/-- the program so far -/
def PV (x : Nat → Int32) (n tc : Nat) (P : yP) (tk : yTok) (c nd : Nat) (τ : zSt) : Prop := rGt x n tc P.1 τ ∧ zI τ 0 22 = nI P.1.2.2.2.2 ∧ rT tk τ ∧ zI τ 0 21 = 0 ∧ zI τ 0 36 = nI c ∧ zI τ 0 37 = nI 0 ∧ zI τ 0 38 = nI nd ∧ zI τ 0 29 = nI P.2.1 ∧ (∀ g, g < P.1.2.2.2.2 → P.1.2.1 g = 2 → rep τ (P.2.2.2.1 g) (nst P g) (nst P g + cN (P.2.2.2.1 g)) (zA τ 11 g) ∧ zA τ 12 g = nI (P.2.2.2.2 g)) ∧ nd = nst P P.1.2.2.2.2
def tfS (τ : zSt) (g : Nat) (w : Int64) : zSt := zsI (zsI (zsI (zsA (zsA (zsA (zsA (zsB (zsI τ 0 35 (nI g)) 7 g w) 8 g 2) 10 g 0) 12 g 0) 11 g (-1)) 0 22 (nI (g + 1))) 0 30 0) 0 34 0
theorem tf_eq {N g : Nat} {w : Int64} {τ : zSt} (h22 : zI τ 0 22 = nI g) (hg : g < 1400) : fX12_tellFunction N w τ = obd (fX12_opens N 40 (tfS τ g w)) (fun _ σ11 => fX12_tellFunction_b84 N N σ11) := by
  unfold fX12_tellFunction tfS
  have e1 : zI (zsI τ 0 35 (nI g)) 0 22 = nI g := by rw [zI_I, if_neg (by omega)]; exact h22
  rw [h22, bnd_e, e1, nI_clamp (by omega), if_neg (ixN hg (by omega)), bnd_e]
  simp only [zI_A, zI_B, e1, nI_clamp (show g < 2 ^ 31 by omega), if_neg (ixN hg (by omega)), bnd_e, nI_1]
theorem tfS_I {τ : zSt} {g j : Nat} {w : Int64} (h : j ≠ 22 ∧ j ≠ 30 ∧ j ≠ 34 ∧ j ≠ 35) : zI (tfS τ g w) 0 j = zI τ 0 j := by
  unfold tfS
  rw [zI_I, if_neg (by omega), zI_I, if_neg (by omega), zI_I, if_neg (by omega), zI_A, zI_A, zI_A, zI_A, zI_B, zI_I, if_neg (by omega)]
theorem tfS_A {τ : zSt} {g a i : Nat} {w : Int64} (h : ¬ ((a = 8 ∨ a = 10 ∨ a = 11 ∨ a = 12) ∧ i = g)) : zA (tfS τ g w) a i = zA τ a i := by
  unfold tfS
  rw [zA_I, zA_I, zA_I, zA_A, if_neg (by omega), zA_A, if_neg (by omega), zA_A, if_neg (by omega), zA_A, if_neg (by omega), zA_B, zA_I]
theorem tfS_B {τ : zSt} {g a i : Nat} {w : Int64} (h : ¬ (a = 7 ∧ i = g)) : zB (tfS τ g w) a i = zB τ a i := by
  unfold tfS
  simp only [zI_I, zI_L, zI_R, zI_A, zI_B, zL_I, zL_L, zL_R, zL_A, zL_B, zA_I, zA_L, zA_R, zA_A, zA_B, zB_I, zB_L, zB_R, zB_A, zB_B, reduceIte, Nat.reduceEqDiff, Nat.reduceEqDiff, false_and, and_false, true_and, and_true, ne_eq, not_false_eq_true, not_true_eq_false]
  rw [if_neg h]
theorem tfS_PR {x : Nat → Int32} {n tc : Nat} {G : gE} {w : Int64} {L0 : lE} {tk : yTok} {c ns nd : Nat} {τ : zSt} (hL : L0.2.2 = 0) (h1 : rGt x n tc G τ) (h2 : rT tk τ) (h3 : zI τ 0 21 = 0) (h4 : zI τ 0 36 = nI c) (h5 : zI τ 0 37 = nI ns) (h6 : zI τ 0 38 = nI nd) : PR x n tc G w L0 tk c ns nd (tfS τ G.2.2.2.2 w) := by
  obtain ⟨⟨s1, s2, s3⟩, g1, g3⟩ := h1
  refine ⟨⟨⟨(tfS_I (by omega)).trans s1, s2, fun j hj => (tfS_A (by omega)).trans (s3 j hj)⟩, (tfS_I (by omega)).trans g1, fun g hg => ?_⟩, ?_, (tfS_I (by omega)).trans h3, (tfS_I (by omega)).trans h4, (tfS_I (by omega)).trans h5, (tfS_I (by omega)).trans h6, ?_, fun j hj => by omega, ?_, ?_, ?_, ?_, ?_, ?_, ?_⟩
  · rw [tfS_B (by omega), tfS_A (by omega), tfS_A (by omega), tfS_A (by omega)]; exact g3 g hg
  · unfold rT
    have : zL (tfS τ G.2.2.2.2 w) 0 20 = zL τ 0 20 := by unfold tfS; simp only [zI_I, zI_L, zI_R, zI_A, zI_B, zL_I, zL_L, zL_R, zL_A, zL_B, zA_I, zA_L, zA_R, zA_A, zA_B, zB_I, zB_L, zB_R, zB_A, zB_B, reduceIte, Nat.reduceEqDiff, Nat.reduceEqDiff, false_and, and_false, true_and, and_true, ne_eq, not_false_eq_true, not_true_eq_false]
    rw [tfS_I (by omega), tfS_I (by omega), tfS_I (by omega), this]
    exact h2
  · rw [hL]; unfold tfS; simp only [zI_I, zI_L, zI_R, zI_A, zI_B, zL_I, zL_L, zL_R, zL_A, zL_B, zA_I, zA_L, zA_R, zA_A, zA_B, zB_I, zB_L, zB_R, zB_A, zB_B, reduceIte, Nat.reduceEqDiff, Nat.reduceEqDiff, false_and, and_false, true_and, and_true, ne_eq, not_false_eq_true, not_true_eq_false]; rfl
  · unfold tfS; simp only [zI_I, zI_L, zI_R, zI_A, zI_B, zL_I, zL_L, zL_R, zL_A, zL_B, zA_I, zA_L, zA_R, zA_A, zA_B, zB_I, zB_L, zB_R, zB_A, zB_B, reduceIte, Nat.reduceEqDiff, Nat.reduceEqDiff, false_and, and_false, true_and, and_true, ne_eq, not_false_eq_true, not_true_eq_false]
  · unfold tfS; simp only [zI_I, zI_L, zI_R, zI_A, zI_B, zL_I, zL_L, zL_R, zL_A, zL_B, zA_I, zA_L, zA_R, zA_A, zA_B, zB_I, zB_L, zB_R, zB_A, zB_B, reduceIte, Nat.reduceEqDiff, Nat.reduceEqDiff, false_and, and_false, true_and, and_true, ne_eq, not_false_eq_true, not_true_eq_false]
  · unfold tfS; simp only [zI_I, zI_L, zI_R, zI_A, zI_B, zL_I, zL_L, zL_R, zL_A, zL_B, zA_I, zA_L, zA_R, zA_A, zA_B, zB_I, zB_L, zB_R, zB_A, zB_B, reduceIte, Nat.reduceEqDiff, Nat.reduceEqDiff, false_and, and_false, true_and, and_true, ne_eq, not_false_eq_true, not_true_eq_false]
  · unfold tfS; simp only [zI_I, zI_L, zI_R, zI_A, zI_B, zL_I, zL_L, zL_R, zL_A, zL_B, zA_I, zA_L, zA_R, zA_A, zA_B, zB_I, zB_L, zB_R, zB_A, zB_B, reduceIte, Nat.reduceEqDiff, Nat.reduceEqDiff, false_and, and_false, true_and, and_true, ne_eq, not_false_eq_true, not_true_eq_false]
  · unfold tfS; simp only [zI_I, zI_L, zI_R, zI_A, zI_B, zL_I, zL_L, zL_R, zL_A, zL_B, zA_I, zA_L, zA_R, zA_A, zA_B, zB_I, zB_L, zB_R, zB_A, zB_B, reduceIte, Nat.reduceEqDiff, Nat.reduceEqDiff, false_and, and_false, true_and, and_true, ne_eq, not_false_eq_true, not_true_eq_false]
  · rw [hL]; unfold tfS; simp only [zI_I, zI_L, zI_R, zI_A, zI_B, zL_I, zL_L, zL_R, zL_A, zL_B, zA_I, zA_L, zA_R, zA_A, zA_B, zB_I, zB_L, zB_R, zB_A, zB_B, reduceIte, Nat.reduceEqDiff, Nat.reduceEqDiff, false_and, and_false, true_and, and_true, ne_eq, not_false_eq_true, not_true_eq_false]; rfl
  · unfold tfS; simp only [zI_I, zI_L, zI_R, zI_A, zI_B, zL_I, zL_L, zL_R, zL_A, zL_B, zA_I, zA_L, zA_R, zA_A, zA_B, zB_I, zB_L, zB_R, zB_A, zB_B, reduceIte, Nat.reduceEqDiff, Nat.reduceEqDiff, false_and, and_false, true_and, and_true, ne_eq, not_false_eq_true, not_true_eq_false]
