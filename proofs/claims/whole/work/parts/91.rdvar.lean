/-! THE REFERENCE'S READER: the end of a global's declaration -/
def dvS (τ : zSt) (g : Nat) (w : Int64) (kd s : Int32) : zSt := zsI (zsI (zsA (zsA (zsA (zsB τ 7 g w) 8 g kd) 9 g (zI τ 0 29)) 10 g s) 0 29 (zI τ 0 29 + s)) 0 22 (nI (g + 1))
theorem b155_eq {N g : Nat} {w : Int64} {kd s : Int32} {τ : zSt} (h22 : zI τ 0 22 = nI g) (hg : g < 1400) : fX12_declaration_b155 N s kd (nI g) (zsB τ 7 g w) = some ((), dvS τ g w kd s) := by
  unfold fX12_declaration_b155 dvS
  rw [nI_clamp (by omega), if_neg (ixN hg (by omega)), bnd_e]
  simp only [zI_A, zI_B, h22, nI_clamp (show g < 2 ^ 31 by omega), if_neg (ixN hg (by omega)), bnd_e]
  have e1 : ∀ (u : zSt) (v : Int32), zI u 0 22 = nI g → zI (zsI u 0 29 v) 0 22 = nI g := fun u v h => by rw [zI_I, if_neg (by omega)]; exact h
  rw [e1 _ _ (by simp only [zI_A, zI_B]; exact h22), nI_1]
theorem dvS_I {τ : zSt} {g j : Nat} {w : Int64} {kd s : Int32} (h : j ≠ 22 ∧ j ≠ 29) : zI (dvS τ g w kd s) 0 j = zI τ 0 j := by
  unfold dvS
  rw [zI_I, if_neg (by omega), zI_I, if_neg (by omega), zI_A, zI_A, zI_A, zI_B]
theorem dvS_A {τ : zSt} {g a i : Nat} {w : Int64} {kd s : Int32} (h : ¬ ((a = 8 ∨ a = 9 ∨ a = 10) ∧ i = g)) : zA (dvS τ g w kd s) a i = zA τ a i := by
  unfold dvS
  rw [zA_I, zA_I, zA_A, if_neg (by omega), zA_A, if_neg (by omega), zA_A, if_neg (by omega), zA_B]
theorem dvS_B {τ : zSt} {g a i : Nat} {w : Int64} {kd s : Int32} (h : ¬ (a = 7 ∧ i = g)) : zB (dvS τ g w kd s) a i = zB τ a i := by
  unfold dvS
  simp only [zI_I, zI_L, zI_R, zI_A, zI_B, zL_I, zL_L, zL_R, zL_A, zL_B, zA_I, zA_L, zA_R, zA_A, zA_B, zB_I, zB_L, zB_R, zB_A, zB_B, reduceIte, Nat.reduceEqDiff, Nat.reduceEqDiff, false_and, and_false, true_and, and_true, ne_eq, not_false_eq_true, not_true_eq_false]
  rw [if_neg h]
theorem dvS_L {τ : zSt} {g o j : Nat} {w : Int64} {kd s : Int32} : zL (dvS τ g w kd s) o j = zL τ o j := by
  unfold dvS
  simp only [zI_I, zI_L, zI_R, zI_A, zI_B, zL_I, zL_L, zL_R, zL_A, zL_B, zA_I, zA_L, zA_R, zA_A, zA_B, zB_I, zB_L, zB_R, zB_A, zB_B, reduceIte, Nat.reduceEqDiff, Nat.reduceEqDiff, false_and, and_false, true_and, and_true, ne_eq, not_false_eq_true, not_true_eq_false]
theorem dvS_22 {τ : zSt} {g : Nat} {w : Int64} {kd s : Int32} : zI (dvS τ g w kd s) 0 22 = nI (g + 1) := by
  unfold dvS; rw [zI_I, if_pos ⟨rfl, rfl⟩]
theorem dvS_29 {τ : zSt} {g : Nat} {w : Int64} {kd s : Int32} : zI (dvS τ g w kd s) 0 29 = zI τ 0 29 + s := by
  unfold dvS; rw [zI_I, if_neg (by omega), zI_I, if_pos ⟨rfl, rfl⟩]
theorem dvS_g {τ : zSt} {g : Nat} {w : Int64} {kd s : Int32} : zB (dvS τ g w kd s) 7 g = w ∧ zA (dvS τ g w kd s) 8 g = kd ∧ zA (dvS τ g w kd s) 9 g = zI τ 0 29 ∧ zA (dvS τ g w kd s) 10 g = s := by
  unfold dvS
  refine ⟨?_, ?_, ?_, ?_⟩
  · simp only [zI_I, zI_L, zI_R, zI_A, zI_B, zL_I, zL_L, zL_R, zL_A, zL_B, zA_I, zA_L, zA_R, zA_A, zA_B, zB_I, zB_L, zB_R, zB_A, zB_B, reduceIte, Nat.reduceEqDiff, Nat.reduceEqDiff, false_and, and_false, true_and, and_true, ne_eq, not_false_eq_true, not_true_eq_false]
  · rw [zA_I, zA_I, zA_A, if_neg (by omega), zA_A, if_neg (by omega), zA_A, if_pos ⟨rfl, rfl⟩]
  · rw [zA_I, zA_I, zA_A, if_neg (by omega), zA_A, if_pos ⟨rfl, rfl⟩]
  · rw [zA_I, zA_I, zA_A, if_pos ⟨rfl, rfl⟩]
theorem fW_dv {τ u : zSt} {g : Nat} {w : Int64} {kd s : Int32} (h : fW τ u) : fW τ (dvS u g w kd s) := ⟨fun j hj => (dvS_I (by omega)).trans (h.1 j hj), fun a i q => (dvS_A (by omega)).trans (h.2 a i q)⟩
/-- a global more -/
def pVar (P : yP) (w : Int64) (kd s : Int32) : yP := (gAdd P.1 w kd (nI P.2.1) s, P.2.1 + s.toNatClampNeg, P.2.2)
theorem PV_dv {x : Nat → Int32} {n tc : Nat} {P : yP} {w : Int64} {kd s : Int32} {tk : yTok} {c nd : Nat} {τ : zSt} (hk : kd ≠ 2) (hs : nI P.2.1 + s = nI (P.2.1 + s.toNatClampNeg)) (hP : PV x n tc P tk c nd τ) : PV x n tc (pVar P w kd s) tk c nd (dvS τ P.1.2.2.2.2 w kd s) := by
  obtain ⟨⟨⟨s1, s2, s3⟩, g1, g3⟩, h22, t1, h1, h2, h3, h4, h5, h6, h7⟩ := hP
  have hcg : ∀ m, m ≤ P.1.2.2.2.2 → nst (pVar P w kd s) m = nst P m := by
    intro m hm
    apply nst_cong
    intro g hg
    have e : ¬ g = P.1.2.2.2.2 := by omega
    unfold pVar
    simp only [gAdd, if_neg e, true_and]
    exact fun _ => trivial
  refine ⟨⟨⟨(dvS_I (by omega)).trans s1, s2, fun j hj => (dvS_A (by omega)).trans (s3 j hj)⟩, (dvS_I (by omega)).trans g1, fun g hg => ?_⟩, dvS_22, ?_, (dvS_I (by omega)).trans h1, (dvS_I (by omega)).trans h2, (dvS_I (by omega)).trans h3, (dvS_I (by omega)).trans h4, ?_, fun g hg hk2 => ?_, ?_⟩
  · have hg2 : g < P.1.2.2.2.2 + 1 := hg
    show _ = (if g = P.1.2.2.2.2 then w else P.1.1 g) ∧ _ = (if g = P.1.2.2.2.2 then kd else P.1.2.1 g) ∧ _ = (if g = P.1.2.2.2.2 then s else P.1.2.2.2.1 g) ∧ ((if g = P.1.2.2.2.2 then kd else P.1.2.1 g) ≠ 2 → _ = (if g = P.1.2.2.2.2 then nI P.2.1 else P.1.2.2.1 g))
    by_cases e : g = P.1.2.2.2.2
    · rw [if_pos e, if_pos e, if_pos e, if_pos e, e]
      obtain ⟨q1, q2, q3, q4⟩ := dvS_g (τ := τ) (g := P.1.2.2.2.2) (w := w) (kd := kd) (s := s)
      exact ⟨q1, q2, q4, fun _ => q3.trans h5⟩
    · rw [if_neg e, if_neg e, if_neg e, if_neg e, dvS_B (by omega), dvS_A (by omega), dvS_A (by omega), dvS_A (by omega)]
      exact g3 g (by omega)
  · unfold rT
    rw [dvS_I (by omega), dvS_I (by omega), dvS_I (by omega), dvS_L]
    exact t1
  · rw [dvS_29, h5]; exact hs
  · have hg2 : g < P.1.2.2.2.2 + 1 := hg
    have hk3 : (if g = P.1.2.2.2.2 then kd else P.1.2.1 g) = 2 := hk2
    by_cases e : g = P.1.2.2.2.2
    · rw [if_pos e] at hk3; exact absurd hk3 hk
    · rw [if_neg e] at hk3
      obtain ⟨a1, a2⟩ := h6 g (by omega) hk3
      rw [dvS_A (by omega), dvS_A (by omega)]
      rw [hcg g (by omega)]
      exact ⟨rep_frame _ _ _ _ (fun m hm => ⟨hm, fun a ha1 ha2 => dvS_A (by omega)⟩) a1, a2⟩
  · show nd = nst (pVar P w kd s) (P.1.2.2.2.2 + 1)
    show nd = nst (pVar P w kd s) P.1.2.2.2.2 + (if (pVar P w kd s).1.2.1 P.1.2.2.2.2 = 2 then cN ((pVar P w kd s).2.2.2.1 P.1.2.2.2.2) else 0)
    have e2 : ¬ (pVar P w kd s).1.2.1 P.1.2.2.2.2 = 2 := by unfold pVar; simp only [gAdd, if_true]; exact hk
    rw [if_neg e2, hcg _ (Nat.le_refl _)]
    exact h7
