/-! THE REFERENCE: compile() -/
/-- d cells of b are copied into a -/
def cpS (a b : Nat) : Nat → Nat → zSt → zSt
  | _, 0, σ => σ
  | k, d + 1, σ => cpS a b (k + 1) d (zsA σ a k (zA σ b k))
theorem cpS_I {a b o j : Nat} : ∀ (d k : Nat) (σ : zSt), zI (cpS a b k d σ) o j = zI σ o j := by
  intro d
  induction d with
  | zero => intro k σ; rfl
  | succ d ih => intro k σ; exact (ih (k + 1) _).trans (zI_A ..)
theorem cpS_B {a b o j : Nat} : ∀ (d k : Nat) (σ : zSt), zB (cpS a b k d σ) o j = zB σ o j := by
  intro d
  induction d with
  | zero => intro k σ; rfl
  | succ d ih => intro k σ; exact (ih (k + 1) _).trans (zB_A ..)
theorem cpS_n {a b c i : Nat} : ∀ (d k : Nat) (σ : zSt), (c ≠ a ∨ i < k ∨ k + d ≤ i) → zA (cpS a b k d σ) c i = zA σ c i := by
  intro d
  induction d with
  | zero => intro k σ _; rfl
  | succ d ih =>
    intro k σ h
    show zA (cpS a b (k + 1) d (zsA σ a k (zA σ b k))) c i = _
    rw [ih (k + 1) _ (by omega), zA_A, if_neg (by omega)]
theorem cpS_v {a b i : Nat} (hab : a ≠ b) : ∀ (d k : Nat) (σ : zSt), k ≤ i → i < k + d → zA (cpS a b k d σ) a i = zA σ b i := by
  intro d
  induction d with
  | zero => intro k σ h1 h2; omega
  | succ d ih =>
    intro k σ h1 h2
    show zA (cpS a b (k + 1) d (zsA σ a k (zA σ b k))) a i = _
    by_cases e : i = k
    · rw [cpS_n d (k + 1) _ (by omega), e, zA_A, if_pos ⟨rfl, rfl⟩]
    · rw [ih (k + 1) _ (by omega) (by omega), zA_A, if_neg (by omega)]
section
variable {N : Nat}
theorem b10R : ∀ (d k m : Nat) (σ : zSt), zI σ 0 16 = nI (k + d) → k + d ≤ 4096 → d < m → fX12_compile_b10 N m (nI k) σ = obd (fX12_read N (cpS 6 1 k d σ)) (fun _ σ4 => obd (fX12_isWell N σ4) (fun r5 σ6 => if r5 = 0 then fX12_compile_b72 N σ6 else obd (fX12_make N σ6) (fun _ σ24 => if (zI σ24 0 61) ≤ (zI σ24 0 5) then fX12_compile_b72 N σ24 else obd (fX12_fails N (10 : Int32) (zI σ24 0 16) σ24) (fun _ σ26 => fX12_compile_b72 N σ26)))) := by
  intro d
  induction d with
  | zero =>
    intro k m σ h hk hm
    obtain ⟨m, rfl⟩ : ∃ g, m = g + 1 := ⟨m - 1, by omega⟩
    rw [Nat.add_zero] at h
    rw [fX12_compile_b10, h, if_pos (Int32.le_refl _)]
    rfl
  | succ d ih =>
    intro k m σ h hk hm
    obtain ⟨m, rfl⟩ : ∃ g, m = g + 1 := ⟨m - 1, by omega⟩
    rw [fX12_compile_b10, h, if_neg (fun z => by rw [nI_le' (by omega) (by omega)] at z; omega), nI_clamp (by omega), if_neg (ixN (by omega) (by omega)), if_neg (ixN (by omega) (by omega)), bnd_e, bnd_e, show nI k + (1 : Int32) = nI (k + 1) from nI_add _ 1]
    exact ih (k + 1) m _ (by rw [zI_A, h]; congr 1; omega) (by omega) (by omega)
theorem b18R : ∀ (d k m : Nat) (σ : zSt), zI σ 0 16 = nI (k + d) → k + d ≤ 4096 → d < m → fX12_readKept_b18 N m (nI k) σ = obd (fX12_read N (cpS 6 41 k d σ)) (fun _ σ4 => some ((), σ4)) := by
  intro d
  induction d with
  | zero =>
    intro k m σ h hk hm
    obtain ⟨m, rfl⟩ : ∃ g, m = g + 1 := ⟨m - 1, by omega⟩
    rw [Nat.add_zero] at h
    rw [fX12_readKept_b18, h, if_pos (Int32.le_refl _)]
    rfl
  | succ d ih =>
    intro k m σ h hk hm
    obtain ⟨m, rfl⟩ : ∃ g, m = g + 1 := ⟨m - 1, by omega⟩
    rw [fX12_readKept_b18, h, if_neg (fun z => by rw [nI_le' (by omega) (by omega)] at z; omega), nI_clamp (by omega), if_neg (ixN (by omega) (by omega)), if_neg (ixN (by omega) (by omega)), bnd_e, bnd_e, show nI k + (1 : Int32) = nI (k + 1) from nI_add _ 1]
    exact ih (k + 1) m _ (by rw [zI_A, h]; congr 1; omega) (by omega) (by omega)
theorem b100R : ∀ (d k m : Nat) (σ : zSt), zI σ 0 16 = nI (k + d) → k + d ≤ 4096 → d < m → fX12_compile_b100 N m (nI k) σ = fX12_compile_b136 N N 0 (zsI (cpS 41 6 k d σ) 0 6 (zI σ 0 61)) := by
  intro d
  induction d with
  | zero =>
    intro k m σ h hk hm
    obtain ⟨m, rfl⟩ : ∃ g, m = g + 1 := ⟨m - 1, by omega⟩
    rw [Nat.add_zero] at h
    rw [fX12_compile_b100, h, if_pos (Int32.le_refl _)]
    rfl
  | succ d ih =>
    intro k m σ h hk hm
    obtain ⟨m, rfl⟩ : ∃ g, m = g + 1 := ⟨m - 1, by omega⟩
    rw [fX12_compile_b100, h, if_neg (fun z => by rw [nI_le' (by omega) (by omega)] at z; omega), nI_clamp (by omega), if_neg (ixN (by omega) (by omega)), if_neg (ixN (by omega) (by omega)), bnd_e, bnd_e, show nI k + (1 : Int32) = nI (k + 1) from nI_add _ 1]
    rw [ih (k + 1) m _ (by rw [zI_A, h]; congr 1; omega) (by omega) (by omega)]
    rfl
theorem b136R : ∀ (d k m : Nat) (σ : zSt), zI σ 0 6 = nI (k + d) → k + d ≤ 4096 → d < m → fX12_compile_b136 N m (nI k) σ = obd (fX12_reset N (zsI (cpS 2 34 k d σ) 0 71 1)) (fun _ σ15 => some ((0 : Int32), σ15)) := by
  intro d
  induction d with
  | zero =>
    intro k m σ h hk hm
    obtain ⟨m, rfl⟩ : ∃ g, m = g + 1 := ⟨m - 1, by omega⟩
    rw [Nat.add_zero] at h
    rw [fX12_compile_b136, h, if_pos (Int32.le_refl _)]
    rfl
  | succ d ih =>
    intro k m σ h hk hm
    obtain ⟨m, rfl⟩ : ∃ g, m = g + 1 := ⟨m - 1, by omega⟩
    rw [fX12_compile_b136, h, if_neg (fun z => by rw [nI_le' (by omega) (by omega)] at z; omega), nI_clamp (by omega), if_neg (ixN (by omega) (by omega)), if_neg (ixN (by omega) (by omega)), bnd_e, bnd_e, show nI k + (1 : Int32) = nI (k + 1) from nI_add _ 1]
    exact ih (k + 1) m _ (by rw [zI_A, h]; congr 1; omega) (by omega) (by omega)
/-- d cells of 3 and 42 become 0 -/
def zfS : Nat → Nat → zSt → zSt
  | _, 0, σ => σ
  | k, d + 1, σ => zfS (k + 1) d (zsA (zsA σ 3 k 0) 42 k 0)
theorem zfS_I {o j : Nat} : ∀ (d k : Nat) (σ : zSt), zI (zfS k d σ) o j = zI σ o j := by
  intro d
  induction d with
  | zero => intro k σ; rfl
  | succ d ih => intro k σ; exact (ih (k + 1) _).trans (by rw [zI_A, zI_A])
theorem zfS_B {o j : Nat} : ∀ (d k : Nat) (σ : zSt), zB (zfS k d σ) o j = zB σ o j := by
  intro d
  induction d with
  | zero => intro k σ; rfl
  | succ d ih => intro k σ; exact (ih (k + 1) _).trans (by rw [zB_A, zB_A])
theorem zfS_n {c i : Nat} : ∀ (d k : Nat) (σ : zSt), ((c ≠ 3 ∧ c ≠ 42) ∨ i < k ∨ k + d ≤ i) → zA (zfS k d σ) c i = zA σ c i := by
  intro d
  induction d with
  | zero => intro k σ _; rfl
  | succ d ih =>
    intro k σ h
    show zA (zfS (k + 1) d (zsA (zsA σ 3 k 0) 42 k 0)) c i = _
    rw [ih (k + 1) _ (by omega), zA_A, if_neg (by omega), zA_A, if_neg (by omega)]
theorem zfS_v {c i : Nat} (hc : c = 3 ∨ c = 42) : ∀ (d k : Nat) (σ : zSt), k ≤ i → i < k + d → zA (zfS k d σ) c i = 0 := by
  intro d
  induction d with
  | zero => intro k σ h1 h2; omega
  | succ d ih =>
    intro k σ h1 h2
    show zA (zfS (k + 1) d (zsA (zsA σ 3 k 0) 42 k 0)) c i = _
    by_cases e : i = k
    · rw [zfS_n d (k + 1) _ (by omega), e]
      rcases hc with e | e
      · rw [zA_A, if_neg (by omega), zA_A, if_pos ⟨e, rfl⟩]
      · rw [zA_A, if_pos ⟨e, rfl⟩]
    · exact ih (k + 1) _ (by omega) (by omega)
/-- all that reset() sets -/
def rsS (σ : zSt) : zSt := zsI (zsI (zsI (zsI (zsI (zsI (zsI (zsI (zsI (zsI (zsI σ 0 72 0) 0 73 (zI σ 0 29)) 0 74 0) 0 75 0) 0 76 0) 0 14 0) 0 12 0) 0 79 0) 0 82 0) 0 87 0) 0 84 0
theorem rst2 : ∀ (d k m : Nat) (σ : zSt), k + d = 4096 → d < m → fX12_reset_b2 N m (nI k) σ = (if zI σ 0 71 = 0 then some ((), rsS (zfS k d σ)) else obd (fX12_push N (1 : Int32) (-1 : Int32) (rsS (zfS k d σ))) (fun _ σ14 => some ((), σ14))) := by
  intro d
  induction d with
  | zero =>
    intro k m σ h hm
    obtain ⟨m, rfl⟩ : ∃ g, m = g + 1 := ⟨m - 1, by omega⟩
    obtain rfl : k = 4096 := by omega
    rw [fX12_reset_b2, if_pos (by decide)]
    rfl
  | succ d ih =>
    intro k m σ h hm
    obtain ⟨m, rfl⟩ : ∃ g, m = g + 1 := ⟨m - 1, by omega⟩
    rw [fX12_reset_b2, if_neg (fun z => by rw [show (4096 : Int32) = nI 4096 from rfl, nI_le' (by omega) (by omega)] at z; omega), nI_clamp (by omega), if_neg (ixN (by omega) (by omega)), bnd_e, if_neg (ixN (by omega) (by omega)), bnd_e, bnd_e, show nI k + (1 : Int32) = nI (k + 1) from nI_add _ 1]
    exact ih (k + 1) m _ (by omega) (by omega)
theorem pushR {k : Nat} {a b : Int32} {σ : zSt} (h : zI σ 0 82 = nI k) (hk : k < 4120) : fX12_push N a b σ = some ((), zsI (zsA (zsA σ 44 k a) 45 k b) 0 82 (nI (k + 1))) := by
  unfold fX12_push
  rw [h, nI_clamp (by omega), if_neg (ixN (by omega) (by omega)), bnd_e, zI_A, h, nI_clamp (by omega), if_neg (ixN (by omega) (by omega)), bnd_e, zI_A, zI_A, h, bnd_e, show nI k + (1 : Int32) = nI (k + 1) from nI_add _ 1]
/-- what reset() leaves as it was -/
def fRs (τ u : zSt) : Prop := (∀ j, (j ≤ 11 ∨ j = 13 ∨ (15 ≤ j ∧ j ≤ 71)) → zI u 0 j = zI τ 0 j) ∧ (∀ a i, a ≠ 3 → a ≠ 42 → a ≠ 44 → a ≠ 45 → zA u a i = zA τ a i) ∧ (∀ a i, zB u a i = zB τ a i)
/-- what reset() gives -/
def RSg (z : zSt) : Prop := zI z 0 72 = 0 ∧ zI z 0 73 = zI z 0 29 ∧ zI z 0 74 = 0 ∧ zI z 0 75 = 0 ∧ zI z 0 76 = 0 ∧ zI z 0 14 = 0 ∧ zI z 0 12 = 0 ∧ zI z 0 79 = 0 ∧ zI z 0 87 = 0 ∧ zI z 0 84 = 0 ∧ (∀ i, i < 4096 → zA z 3 i = 0 ∧ zA z 42 i = 0) ∧ (zI z 0 71 ≠ 0 → zI z 0 82 = 1 ∧ zA z 44 0 = 1 ∧ zA z 45 0 = -1)
theorem resetR {τ : zSt} (hN : 5000 ≤ N) : wp (fX12_reset N τ) (fun _ z => fRs τ z ∧ RSg z) := by
  unfold fX12_reset
  obtain ⟨d, hd⟩ : ∃ d, d = 4096 := ⟨_, rfl⟩
  rw [bnd_e, show (0 : Int32) = nI 0 from rfl, rst2 d 0 N τ (by omega) (by omega)]
  have i1 : ∀ j, (j ≤ 11 ∨ j = 13 ∨ (15 ≤ j ∧ j ≤ 71)) → zI (rsS (zfS 0 d τ)) 0 j = zI τ 0 j := by
    intro j hj
    unfold rsS
    simp only [zI_I, zfS_I]
    repeat rw [if_neg (by omega)]
  have g1 : zI (rsS (zfS 0 d τ)) 0 72 = 0 ∧ zI (rsS (zfS 0 d τ)) 0 73 = zI τ 0 29 ∧ zI (rsS (zfS 0 d τ)) 0 74 = 0 ∧ zI (rsS (zfS 0 d τ)) 0 75 = 0 ∧ zI (rsS (zfS 0 d τ)) 0 76 = 0 ∧ zI (rsS (zfS 0 d τ)) 0 14 = 0 ∧ zI (rsS (zfS 0 d τ)) 0 12 = 0 ∧ zI (rsS (zfS 0 d τ)) 0 79 = 0 ∧ zI (rsS (zfS 0 d τ)) 0 82 = 0 ∧ zI (rsS (zfS 0 d τ)) 0 87 = 0 ∧ zI (rsS (zfS 0 d τ)) 0 84 = 0 := by
    unfold rsS
    simp only [zI_I, zI_L, zI_R, zI_A, zI_B, zL_I, zL_L, zL_R, zL_A, zL_B, zA_I, zA_L, zA_R, zA_A, zA_B, zB_I, zB_L, zB_R, zB_A, zB_B, reduceIte, Nat.reduceEqDiff, Nat.reduceEqDiff, false_and, and_false, true_and, and_true, ne_eq, not_false_eq_true, not_true_eq_false, zfS_I]
  have a1 : ∀ a i, a ≠ 3 → a ≠ 42 → zA (rsS (zfS 0 d τ)) a i = zA τ a i := fun a i h1 h2 => by
    unfold rsS
    simp only [zA_I]
    exact zfS_n _ _ _ (Or.inl ⟨h1, h2⟩)
  have a2 : ∀ i, i < 4096 → zA (rsS (zfS 0 d τ)) 3 i = 0 ∧ zA (rsS (zfS 0 d τ)) 42 i = 0 := fun i hi => by
    unfold rsS
    simp only [zA_I]
    exact ⟨zfS_v (Or.inl rfl) _ _ _ (Nat.zero_le _) (by omega), zfS_v (Or.inr rfl) _ _ _ (Nat.zero_le _) (by omega)⟩
  have b1 : ∀ a i, zB (rsS (zfS 0 d τ)) a i = zB τ a i := fun a i => by
    unfold rsS
    simp only [zB_I]
    exact zfS_B _ _ _
  revert i1 g1 a1 a2 b1
  generalize rsS (zfS 0 d τ) = u
  intro i1 g1 a1 a2 b1
  obtain ⟨g1, g2, g3, g4, g5, g6, g7, g8, g9, g10, g11⟩ := g1
  by_cases c : zI τ 0 71 = 0
  · rw [if_pos c]
    exact wp_s ⟨⟨i1, fun a i h1 h2 _ _ => a1 a i h1 h2, b1⟩, g1, g2.trans (i1 29 (by omega)).symm, g3, g4, g5, g6, g7, g8, g10, g11, a2, fun h => absurd ((i1 71 (by omega)).trans c) h⟩
  · rw [if_neg c]
    rw [pushR (k := 0) g9 (by omega), obd_s]
    refine wp_s ⟨⟨fun j hj => ?_, fun a i h1 h2 h3 h4 => ?_, fun a i => ?_⟩, ?_⟩
    · rw [zI_I, if_neg (by omega), zI_A, zI_A]; exact i1 j hj
    · rw [zA_I, zA_A, if_neg (by omega), zA_A, if_neg (by omega)]; exact a1 a i h1 h2
    · rw [zB_I, zB_A, zB_A]; exact b1 a i
    · unfold RSg
      simp only [zI_I, zI_L, zI_R, zI_A, zI_B, zL_I, zL_L, zL_R, zL_A, zL_B, zA_I, zA_L, zA_R, zA_A, zA_B, zB_I, zB_L, zB_R, zB_A, zB_B, reduceIte, Nat.reduceEqDiff, Nat.reduceEqDiff, false_and, and_false, true_and, and_true, ne_eq, not_false_eq_true, not_true_eq_false]
      refine ⟨g1, g2.trans (i1 29 (by omega)).symm, g3, g4, g5, g6, g7, g8, g10, g11, a2, fun _ => ?_⟩
      decide
end
