/-! PURE: the reference's small methods in closed form -/
def flS (τ : zSt) (k p : Int32) : zSt := if zI τ 0 21 = 0 then zsI τ 0 21 (k + 16 * p) else τ
def stS (τ : zSt) : zSt := flS τ (if zI τ 0 19 = 5 then 1 else 2) (zI τ 0 18)
def sgB (τ : zSt) (s : Int32) : Bool := decide (zI τ 0 21 = 0 ∧ zI τ 0 19 = 4 ∧ zL τ 0 20 = s.toInt64)
def wdB (τ : zSt) (s : Int32) : Bool := decide (zI τ 0 21 = 0 ∧ zI τ 0 19 = 3 ∧ zL τ 0 20 = s.toInt64)
theorem b01_0 (b : Bool) : b01 b = 0 ↔ ¬ b = true := by cases b <;> decide
theorem isWellR {N : Nat} {τ : zSt} : fX12_isWell N τ = some (b01 (decide (zI τ 0 21 = 0)), τ) := by
  unfold fX12_isWell b01
  simp only [decide_eq_true_eq]
  split <;> rfl
theorem failsR {N : Nat} {τ : zSt} (k p : Int32) : fX12_fails N k p τ = some ((), flS τ k p) := by
  unfold fX12_fails flS
  split <;> rfl
theorem strayR {N : Nat} {τ : zSt} : fX12_stray N τ = some ((), stS τ) := by
  unfold fX12_stray fX12_stray_b14 stS
  simp only [failsR, obd_s]
  split <;> rfl
theorem isSignR {N : Nat} {τ : zSt} (s : Int32) : fX12_isSign N s τ = some (b01 (sgB τ s), τ) := by
  unfold fX12_isSign sgB
  rw [isWellR, obd_s]
  unfold b01
  simp only [decide_eq_true_eq, lg_cmp_eq]
  by_cases h : zI τ 0 21 = 0
  · by_cases h1 : zI τ 0 19 = 4
    · by_cases h2 : zL τ 0 20 = s.toInt64
      · simp [h, h1, h2]
      · simp [h, h1, h2]
    · simp [h, h1]
  · simp [h]
theorem isWordR {N : Nat} {τ : zSt} (s : Int32) : fX12_isWord N s τ = some (b01 (wdB τ s), τ) := by
  unfold fX12_isWord wdB
  rw [isWellR, obd_s]
  unfold b01
  simp only [decide_eq_true_eq, lg_cmp_eq]
  by_cases h : zI τ 0 21 = 0
  · by_cases h1 : zI τ 0 19 = 3
    · by_cases h2 : zL τ 0 20 = s.toInt64
      · simp [h, h1, h2]
      · simp [h, h1, h2]
    · simp [h, h1]
  · simp [h]
theorem takesR_yes {N : Nat} {τ : zSt} {s : Int32} (h : sgB τ s = true) : fX12_takes N s τ = fX12_next N τ := by
  unfold fX12_takes
  rw [isSignR, obd_s, if_neg (by rw [b01_0]; exact fun q => q h)]
  cases fX12_next N τ with
  | none => rfl
  | some q => rfl
theorem takesR_no {N : Nat} {τ : zSt} {s : Int32} (h : ¬ sgB τ s = true) : fX12_takes N s τ = some ((), stS τ) := by
  unfold fX12_takes
  rw [isSignR, obd_s, if_pos ((b01_0 _).mpr h), strayR, obd_s]
def foS (τ : zSt) (p : Int32) : zSt := zsI (if zI τ 0 36 + 4 ≤ zI τ 0 3 then τ else flS τ 9 p) 0 36 (zI τ 0 36 + 4)
theorem flS_I {τ : zSt} {k p : Int32} {j : Nat} (hj : j ≠ 21) : zI (flS τ k p) 0 j = zI τ 0 j := by
  unfold flS
  split
  · rw [zI_I, if_neg (by rintro ⟨-, q⟩; exact hj q)]
  · rfl
theorem fourR {N : Nat} {τ : zSt} (p : Int32) : fX12_four N p τ = some ((), foS τ p) := by
  unfold fX12_four fX12_four_b27 foS
  rw [isWellR, obd_s]
  simp only [bnd_e, failsR, obd_s, b01_0, decide_eq_true_eq]
  by_cases h : zI τ 0 21 = 0
  · rw [if_neg (fun q => q h)]
    by_cases h1 : zI τ 0 36 + 4 ≤ zI τ 0 3
    · rw [if_pos h1, if_pos h1]
    · rw [if_neg h1, if_neg h1, flS_I (by decide)]
  · rw [if_pos h]
    have h2 : flS τ 9 p = τ := by unfold flS; rw [if_neg h]
    rw [h2]
    simp
def neS (τ : zSt) : zSt := zsI (if zI τ 0 37 = 40 then flS τ 8 (zI τ 0 18) else τ) 0 37 (zI τ 0 37 + 1)
theorem nestsR {N : Nat} {τ : zSt} : fX12_nests N τ = some ((), neS τ) := by
  unfold fX12_nests fX12_nests_b26 neS
  rw [isWellR, obd_s]
  simp only [bnd_e, failsR, obd_s, b01_0, decide_eq_true_eq]
  by_cases h : zI τ 0 21 = 0
  · rw [if_neg (fun q => q h)]
    by_cases h1 : zI τ 0 37 = 40
    · rw [if_pos h1, if_pos h1, flS_I (by decide)]
    · rw [if_neg h1, if_neg h1]
  · rw [if_pos h]
    have h2 : flS τ 8 (zI τ 0 18) = τ := by unfold flS; rw [if_neg h]
    rw [h2]
    simp
