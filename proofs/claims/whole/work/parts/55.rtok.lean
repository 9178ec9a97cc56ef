/-! WP: a call goes through, and behind it Q holds -/
def wp {α : Type} (a : Option (α × zSt)) (Q : α → zSt → Prop) : Prop := ∃ r u, a = some (r, u) ∧ Q r u
theorem wp_s {α : Type} {r : α} {u : zSt} {Q : α → zSt → Prop} (h : Q r u) : wp (some (r, u)) Q := ⟨r, u, rfl, h⟩
theorem wp_obd {α β : Type} {a : Option (α × zSt)} {f : α → zSt → Option (β × zSt)} {Q : β → zSt → Prop} (h : wp a (fun r u => wp (f r u) Q)) : wp (obd a f) Q := by
  obtain ⟨r, u, e, h⟩ := h
  rw [e]
  exact h
theorem wp_mono {α : Type} {a : Option (α × zSt)} {P Q : α → zSt → Prop} (h : wp a P) (hq : ∀ r u, P r u → Q r u) : wp a Q := by
  obtain ⟨r, u, e, h⟩ := h
  exact ⟨r, u, e, hq r u h⟩
theorem wp_eq {α : Type} {a : Option (α × zSt)} {r : α} {u : zSt} {Q : α → zSt → Prop} (e : a = some (r, u)) (h : Q r u) : wp a Q := ⟨r, u, e, h⟩
/-! TOKENS of the reference: kind and told against the class's number -/
def kV (k : Int32) (t : Int64) : Prop := k = 0 ∨ k = 1 ∨ k = 2 ∨ (k = 3 ∧ (t = 0 ∨ t = 1 ∨ t = 2 ∨ t = 3 ∨ t = 4 ∨ t = 5 ∨ t = 6)) ∨ (k = 4 ∧ sgOf t ≠ -1) ∨ k = 5
theorem sg_in {t : Int64} (h : sgOf t ≠ -1) : t = 40 ∨ t = 41 ∨ t = 123 ∨ t = 125 ∨ t = 91 ∨ t = 93 ∨ t = 44 ∨ t = 59 ∨ t = 61 ∨ t = 31868 ∨ t = 9766 ∨ t = 124 ∨ t = 94 ∨ t = 38 ∨ t = 15677 ∨ t = 8509 ∨ t = 60 ∨ t = 15421 ∨ t = 62 ∨ t = 15933 ∨ t = 15420 ∨ t = 15934 ∨ t = 43 ∨ t = 45 ∨ t = 42 ∨ t = 47 ∨ t = 37 ∨ t = 33 ∨ t = 126 := by
  by_cases e49 : t = 40
  · simp only [e49, true_or, or_true]
  by_cases e50 : t = 41
  · simp only [e50, true_or, or_true]
  by_cases e51 : t = 123
  · simp only [e51, true_or, or_true]
  by_cases e52 : t = 125
  · simp only [e52, true_or, or_true]
  by_cases e53 : t = 91
  · simp only [e53, true_or, or_true]
  by_cases e54 : t = 93
  · simp only [e54, true_or, or_true]
  by_cases e55 : t = 44
  · simp only [e55, true_or, or_true]
  by_cases e56 : t = 59
  · simp only [e56, true_or, or_true]
  by_cases e57 : t = 61
  · simp only [e57, true_or, or_true]
  by_cases e9 : t = 31868
  · simp only [e9, true_or, or_true]
  by_cases e8 : t = 9766
  · simp only [e8, true_or, or_true]
  by_cases e10 : t = 124
  · simp only [e10, true_or, or_true]
  by_cases e11 : t = 94
  · simp only [e11, true_or, or_true]
  by_cases e12 : t = 38
  · simp only [e12, true_or, or_true]
  by_cases e13 : t = 15677
  · simp only [e13, true_or, or_true]
  by_cases e14 : t = 8509
  · simp only [e14, true_or, or_true]
  by_cases e15 : t = 60
  · simp only [e15, true_or, or_true]
  by_cases e16 : t = 15421
  · simp only [e16, true_or, or_true]
  by_cases e17 : t = 62
  · simp only [e17, true_or, or_true]
  by_cases e18 : t = 15933
  · simp only [e18, true_or, or_true]
  by_cases e19 : t = 15420
  · simp only [e19, true_or, or_true]
  by_cases e20 : t = 15934
  · simp only [e20, true_or, or_true]
  by_cases e21 : t = 43
  · simp only [e21, true_or, or_true]
  by_cases e22 : t = 45
  · simp only [e22, true_or, or_true]
  by_cases e23 : t = 42
  · simp only [e23, true_or, or_true]
  by_cases e27 : t = 47
  · simp only [e27, true_or, or_true]
  by_cases e28 : t = 37
  · simp only [e28, true_or, or_true]
  by_cases e25 : t = 33
  · simp only [e25, true_or, or_true]
  by_cases e26 : t = 126
  · simp only [e26, true_or, or_true]
  exact absurd (by unfold sgOf; simp only [e49, e50, e51, e52, e53, e54, e55, e56, e57, e9, e8, e10, e11, e12, e13, e14, e15, e16, e17, e18, e19, e20, e21, e22, e23, e27, e28, e25, e26, if_false]) h
def sgInv (c : Int32) : Int64 := if c = 49 then 40 else if c = 50 then 41 else if c = 51 then 123 else if c = 52 then 125 else if c = 53 then 91 else if c = 54 then 93 else if c = 55 then 44 else if c = 56 then 59 else if c = 57 then 61 else if c = 9 then 31868 else if c = 8 then 9766 else if c = 10 then 124 else if c = 11 then 94 else if c = 12 then 38 else if c = 13 then 15677 else if c = 14 then 8509 else if c = 15 then 60 else if c = 16 then 15421 else if c = 17 then 62 else if c = 18 then 15933 else if c = 19 then 15420 else if c = 20 then 15934 else if c = 21 then 43 else if c = 22 then 45 else if c = 23 then 42 else if c = 27 then 47 else if c = 28 then 37 else if c = 25 then 33 else if c = 26 then 126 else 0
theorem sgInv_ok {t : Int64} (h : sgOf t ≠ -1) : sgInv (sgOf t) = t := by
  rcases sg_in h with rfl | rfl | rfl | rfl | rfl | rfl | rfl | rfl | rfl | rfl | rfl | rfl | rfl | rfl | rfl | rfl | rfl | rfl | rfl | rfl | rfl | rfl | rfl | rfl | rfl | rfl | rfl | rfl | rfl <;> decide
theorem sgRng (t : Int64) : ¬ sgOf t = 40 ∧ ¬ sgOf t = 41 ∧ ¬ sgOf t = 42 ∧ ¬ sgOf t = 43 ∧ ¬ sgOf t = 44 ∧ ¬ sgOf t = 45 ∧ ¬ sgOf t = 46 ∧ ¬ sgOf t = 47 ∧ ¬ sgOf t = 48 ∧ ¬ sgOf t = 58 := by
  by_cases h : sgOf t = -1
  · rw [h]; decide
  · rcases sg_in h with rfl | rfl | rfl | rfl | rfl | rfl | rfl | rfl | rfl | rfl | rfl | rfl | rfl | rfl | rfl | rfl | rfl | rfl | rfl | rfl | rfl | rfl | rfl | rfl | rfl | rfl | rfl | rfl | rfl <;> decide
theorem sg49 {k : Int32} {t : Int64} {K : Int32} (h : kOf k t = K) (hv : kV k t) : (k = 4 ∧ t = 40) ↔ K = 49 := by
  constructor
  · rintro ⟨rfl, rfl⟩
    rw [← h]; decide
  · intro hK
    rw [hK] at h
    rcases hv with rfl | rfl | rfl | ⟨rfl, ht⟩ | ⟨rfl, ht⟩ | rfl
    · exact absurd (show (58 : Int32) = 49 from h) (by decide)
    · exact absurd (show (40 : Int32) = 49 from h) (by decide)
    · exact absurd (show (41 : Int32) = 49 from h) (by decide)
    · rcases ht with rfl | rfl | rfl | rfl | rfl | rfl | rfl <;> exact absurd h (by decide)
    · exact ⟨rfl, by have e := sgInv_ok ht; rw [show sgOf t = 49 from h] at e; rw [← e]; decide⟩
    · exact absurd (show (-1 : Int32) = 49 from h) (by decide)
theorem sg50 {k : Int32} {t : Int64} {K : Int32} (h : kOf k t = K) (hv : kV k t) : (k = 4 ∧ t = 41) ↔ K = 50 := by
  constructor
  · rintro ⟨rfl, rfl⟩
    rw [← h]; decide
  · intro hK
    rw [hK] at h
    rcases hv with rfl | rfl | rfl | ⟨rfl, ht⟩ | ⟨rfl, ht⟩ | rfl
    · exact absurd (show (58 : Int32) = 50 from h) (by decide)
    · exact absurd (show (40 : Int32) = 50 from h) (by decide)
    · exact absurd (show (41 : Int32) = 50 from h) (by decide)
    · rcases ht with rfl | rfl | rfl | rfl | rfl | rfl | rfl <;> exact absurd h (by decide)
    · exact ⟨rfl, by have e := sgInv_ok ht; rw [show sgOf t = 50 from h] at e; rw [← e]; decide⟩
    · exact absurd (show (-1 : Int32) = 50 from h) (by decide)
theorem sg51 {k : Int32} {t : Int64} {K : Int32} (h : kOf k t = K) (hv : kV k t) : (k = 4 ∧ t = 123) ↔ K = 51 := by
  constructor
  · rintro ⟨rfl, rfl⟩
    rw [← h]; decide
  · intro hK
    rw [hK] at h
    rcases hv with rfl | rfl | rfl | ⟨rfl, ht⟩ | ⟨rfl, ht⟩ | rfl
    · exact absurd (show (58 : Int32) = 51 from h) (by decide)
    · exact absurd (show (40 : Int32) = 51 from h) (by decide)
    · exact absurd (show (41 : Int32) = 51 from h) (by decide)
    · rcases ht with rfl | rfl | rfl | rfl | rfl | rfl | rfl <;> exact absurd h (by decide)
    · exact ⟨rfl, by have e := sgInv_ok ht; rw [show sgOf t = 51 from h] at e; rw [← e]; decide⟩
    · exact absurd (show (-1 : Int32) = 51 from h) (by decide)
theorem sg52 {k : Int32} {t : Int64} {K : Int32} (h : kOf k t = K) (hv : kV k t) : (k = 4 ∧ t = 125) ↔ K = 52 := by
  constructor
  · rintro ⟨rfl, rfl⟩
    rw [← h]; decide
  · intro hK
    rw [hK] at h
    rcases hv with rfl | rfl | rfl | ⟨rfl, ht⟩ | ⟨rfl, ht⟩ | rfl
    · exact absurd (show (58 : Int32) = 52 from h) (by decide)
    · exact absurd (show (40 : Int32) = 52 from h) (by decide)
    · exact absurd (show (41 : Int32) = 52 from h) (by decide)
    · rcases ht with rfl | rfl | rfl | rfl | rfl | rfl | rfl <;> exact absurd h (by decide)
    · exact ⟨rfl, by have e := sgInv_ok ht; rw [show sgOf t = 52 from h] at e; rw [← e]; decide⟩
    · exact absurd (show (-1 : Int32) = 52 from h) (by decide)
theorem sg53 {k : Int32} {t : Int64} {K : Int32} (h : kOf k t = K) (hv : kV k t) : (k = 4 ∧ t = 91) ↔ K = 53 := by
  constructor
  · rintro ⟨rfl, rfl⟩
    rw [← h]; decide
  · intro hK
    rw [hK] at h
    rcases hv with rfl | rfl | rfl | ⟨rfl, ht⟩ | ⟨rfl, ht⟩ | rfl
    · exact absurd (show (58 : Int32) = 53 from h) (by decide)
    · exact absurd (show (40 : Int32) = 53 from h) (by decide)
    · exact absurd (show (41 : Int32) = 53 from h) (by decide)
    · rcases ht with rfl | rfl | rfl | rfl | rfl | rfl | rfl <;> exact absurd h (by decide)
    · exact ⟨rfl, by have e := sgInv_ok ht; rw [show sgOf t = 53 from h] at e; rw [← e]; decide⟩
    · exact absurd (show (-1 : Int32) = 53 from h) (by decide)
theorem sg54 {k : Int32} {t : Int64} {K : Int32} (h : kOf k t = K) (hv : kV k t) : (k = 4 ∧ t = 93) ↔ K = 54 := by
  constructor
  · rintro ⟨rfl, rfl⟩
    rw [← h]; decide
  · intro hK
    rw [hK] at h
    rcases hv with rfl | rfl | rfl | ⟨rfl, ht⟩ | ⟨rfl, ht⟩ | rfl
    · exact absurd (show (58 : Int32) = 54 from h) (by decide)
    · exact absurd (show (40 : Int32) = 54 from h) (by decide)
    · exact absurd (show (41 : Int32) = 54 from h) (by decide)
    · rcases ht with rfl | rfl | rfl | rfl | rfl | rfl | rfl <;> exact absurd h (by decide)
    · exact ⟨rfl, by have e := sgInv_ok ht; rw [show sgOf t = 54 from h] at e; rw [← e]; decide⟩
    · exact absurd (show (-1 : Int32) = 54 from h) (by decide)
theorem sg55 {k : Int32} {t : Int64} {K : Int32} (h : kOf k t = K) (hv : kV k t) : (k = 4 ∧ t = 44) ↔ K = 55 := by
  constructor
  · rintro ⟨rfl, rfl⟩
    rw [← h]; decide
  · intro hK
    rw [hK] at h
    rcases hv with rfl | rfl | rfl | ⟨rfl, ht⟩ | ⟨rfl, ht⟩ | rfl
    · exact absurd (show (58 : Int32) = 55 from h) (by decide)
    · exact absurd (show (40 : Int32) = 55 from h) (by decide)
    · exact absurd (show (41 : Int32) = 55 from h) (by decide)
    · rcases ht with rfl | rfl | rfl | rfl | rfl | rfl | rfl <;> exact absurd h (by decide)
    · exact ⟨rfl, by have e := sgInv_ok ht; rw [show sgOf t = 55 from h] at e; rw [← e]; decide⟩
    · exact absurd (show (-1 : Int32) = 55 from h) (by decide)
theorem sg56 {k : Int32} {t : Int64} {K : Int32} (h : kOf k t = K) (hv : kV k t) : (k = 4 ∧ t = 59) ↔ K = 56 := by
  constructor
  · rintro ⟨rfl, rfl⟩
    rw [← h]; decide
  · intro hK
    rw [hK] at h
    rcases hv with rfl | rfl | rfl | ⟨rfl, ht⟩ | ⟨rfl, ht⟩ | rfl
    · exact absurd (show (58 : Int32) = 56 from h) (by decide)
    · exact absurd (show (40 : Int32) = 56 from h) (by decide)
    · exact absurd (show (41 : Int32) = 56 from h) (by decide)
    · rcases ht with rfl | rfl | rfl | rfl | rfl | rfl | rfl <;> exact absurd h (by decide)
    · exact ⟨rfl, by have e := sgInv_ok ht; rw [show sgOf t = 56 from h] at e; rw [← e]; decide⟩
    · exact absurd (show (-1 : Int32) = 56 from h) (by decide)
theorem sg57 {k : Int32} {t : Int64} {K : Int32} (h : kOf k t = K) (hv : kV k t) : (k = 4 ∧ t = 61) ↔ K = 57 := by
  constructor
  · rintro ⟨rfl, rfl⟩
    rw [← h]; decide
  · intro hK
    rw [hK] at h
    rcases hv with rfl | rfl | rfl | ⟨rfl, ht⟩ | ⟨rfl, ht⟩ | rfl
    · exact absurd (show (58 : Int32) = 57 from h) (by decide)
    · exact absurd (show (40 : Int32) = 57 from h) (by decide)
    · exact absurd (show (41 : Int32) = 57 from h) (by decide)
    · rcases ht with rfl | rfl | rfl | rfl | rfl | rfl | rfl <;> exact absurd h (by decide)
    · exact ⟨rfl, by have e := sgInv_ok ht; rw [show sgOf t = 57 from h] at e; rw [← e]; decide⟩
    · exact absurd (show (-1 : Int32) = 57 from h) (by decide)
theorem sg9 {k : Int32} {t : Int64} {K : Int32} (h : kOf k t = K) (hv : kV k t) : (k = 4 ∧ t = 31868) ↔ K = 9 := by
  constructor
  · rintro ⟨rfl, rfl⟩
    rw [← h]; decide
  · intro hK
    rw [hK] at h
    rcases hv with rfl | rfl | rfl | ⟨rfl, ht⟩ | ⟨rfl, ht⟩ | rfl
    · exact absurd (show (58 : Int32) = 9 from h) (by decide)
    · exact absurd (show (40 : Int32) = 9 from h) (by decide)
    · exact absurd (show (41 : Int32) = 9 from h) (by decide)
    · rcases ht with rfl | rfl | rfl | rfl | rfl | rfl | rfl <;> exact absurd h (by decide)
    · exact ⟨rfl, by have e := sgInv_ok ht; rw [show sgOf t = 9 from h] at e; rw [← e]; decide⟩
    · exact absurd (show (-1 : Int32) = 9 from h) (by decide)
theorem sg8 {k : Int32} {t : Int64} {K : Int32} (h : kOf k t = K) (hv : kV k t) : (k = 4 ∧ t = 9766) ↔ K = 8 := by
  constructor
  · rintro ⟨rfl, rfl⟩
    rw [← h]; decide
  · intro hK
    rw [hK] at h
    rcases hv with rfl | rfl | rfl | ⟨rfl, ht⟩ | ⟨rfl, ht⟩ | rfl
    · exact absurd (show (58 : Int32) = 8 from h) (by decide)
    · exact absurd (show (40 : Int32) = 8 from h) (by decide)
    · exact absurd (show (41 : Int32) = 8 from h) (by decide)
    · rcases ht with rfl | rfl | rfl | rfl | rfl | rfl | rfl <;> exact absurd h (by decide)
    · exact ⟨rfl, by have e := sgInv_ok ht; rw [show sgOf t = 8 from h] at e; rw [← e]; decide⟩
    · exact absurd (show (-1 : Int32) = 8 from h) (by decide)
theorem sg10 {k : Int32} {t : Int64} {K : Int32} (h : kOf k t = K) (hv : kV k t) : (k = 4 ∧ t = 124) ↔ K = 10 := by
  constructor
  · rintro ⟨rfl, rfl⟩
    rw [← h]; decide
  · intro hK
    rw [hK] at h
    rcases hv with rfl | rfl | rfl | ⟨rfl, ht⟩ | ⟨rfl, ht⟩ | rfl
    · exact absurd (show (58 : Int32) = 10 from h) (by decide)
    · exact absurd (show (40 : Int32) = 10 from h) (by decide)
    · exact absurd (show (41 : Int32) = 10 from h) (by decide)
    · rcases ht with rfl | rfl | rfl | rfl | rfl | rfl | rfl <;> exact absurd h (by decide)
    · exact ⟨rfl, by have e := sgInv_ok ht; rw [show sgOf t = 10 from h] at e; rw [← e]; decide⟩
    · exact absurd (show (-1 : Int32) = 10 from h) (by decide)
theorem sg11 {k : Int32} {t : Int64} {K : Int32} (h : kOf k t = K) (hv : kV k t) : (k = 4 ∧ t = 94) ↔ K = 11 := by
  constructor
  · rintro ⟨rfl, rfl⟩
    rw [← h]; decide
  · intro hK
    rw [hK] at h
    rcases hv with rfl | rfl | rfl | ⟨rfl, ht⟩ | ⟨rfl, ht⟩ | rfl
    · exact absurd (show (58 : Int32) = 11 from h) (by decide)
    · exact absurd (show (40 : Int32) = 11 from h) (by decide)
    · exact absurd (show (41 : Int32) = 11 from h) (by decide)
    · rcases ht with rfl | rfl | rfl | rfl | rfl | rfl | rfl <;> exact absurd h (by decide)
    · exact ⟨rfl, by have e := sgInv_ok ht; rw [show sgOf t = 11 from h] at e; rw [← e]; decide⟩
    · exact absurd (show (-1 : Int32) = 11 from h) (by decide)
theorem sg12 {k : Int32} {t : Int64} {K : Int32} (h : kOf k t = K) (hv : kV k t) : (k = 4 ∧ t = 38) ↔ K = 12 := by
  constructor
  · rintro ⟨rfl, rfl⟩
    rw [← h]; decide
  · intro hK
    rw [hK] at h
    rcases hv with rfl | rfl | rfl | ⟨rfl, ht⟩ | ⟨rfl, ht⟩ | rfl
    · exact absurd (show (58 : Int32) = 12 from h) (by decide)
    · exact absurd (show (40 : Int32) = 12 from h) (by decide)
    · exact absurd (show (41 : Int32) = 12 from h) (by decide)
    · rcases ht with rfl | rfl | rfl | rfl | rfl | rfl | rfl <;> exact absurd h (by decide)
    · exact ⟨rfl, by have e := sgInv_ok ht; rw [show sgOf t = 12 from h] at e; rw [← e]; decide⟩
    · exact absurd (show (-1 : Int32) = 12 from h) (by decide)
theorem sg13 {k : Int32} {t : Int64} {K : Int32} (h : kOf k t = K) (hv : kV k t) : (k = 4 ∧ t = 15677) ↔ K = 13 := by
  constructor
  · rintro ⟨rfl, rfl⟩
    rw [← h]; decide
  · intro hK
    rw [hK] at h
    rcases hv with rfl | rfl | rfl | ⟨rfl, ht⟩ | ⟨rfl, ht⟩ | rfl
    · exact absurd (show (58 : Int32) = 13 from h) (by decide)
    · exact absurd (show (40 : Int32) = 13 from h) (by decide)
    · exact absurd (show (41 : Int32) = 13 from h) (by decide)
    · rcases ht with rfl | rfl | rfl | rfl | rfl | rfl | rfl <;> exact absurd h (by decide)
    · exact ⟨rfl, by have e := sgInv_ok ht; rw [show sgOf t = 13 from h] at e; rw [← e]; decide⟩
    · exact absurd (show (-1 : Int32) = 13 from h) (by decide)
theorem sg14 {k : Int32} {t : Int64} {K : Int32} (h : kOf k t = K) (hv : kV k t) : (k = 4 ∧ t = 8509) ↔ K = 14 := by
  constructor
  · rintro ⟨rfl, rfl⟩
    rw [← h]; decide
  · intro hK
    rw [hK] at h
    rcases hv with rfl | rfl | rfl | ⟨rfl, ht⟩ | ⟨rfl, ht⟩ | rfl
    · exact absurd (show (58 : Int32) = 14 from h) (by decide)
    · exact absurd (show (40 : Int32) = 14 from h) (by decide)
    · exact absurd (show (41 : Int32) = 14 from h) (by decide)
    · rcases ht with rfl | rfl | rfl | rfl | rfl | rfl | rfl <;> exact absurd h (by decide)
    · exact ⟨rfl, by have e := sgInv_ok ht; rw [show sgOf t = 14 from h] at e; rw [← e]; decide⟩
    · exact absurd (show (-1 : Int32) = 14 from h) (by decide)
theorem sg15 {k : Int32} {t : Int64} {K : Int32} (h : kOf k t = K) (hv : kV k t) : (k = 4 ∧ t = 60) ↔ K = 15 := by
  constructor
  · rintro ⟨rfl, rfl⟩
    rw [← h]; decide
  · intro hK
    rw [hK] at h
    rcases hv with rfl | rfl | rfl | ⟨rfl, ht⟩ | ⟨rfl, ht⟩ | rfl
    · exact absurd (show (58 : Int32) = 15 from h) (by decide)
    · exact absurd (show (40 : Int32) = 15 from h) (by decide)
    · exact absurd (show (41 : Int32) = 15 from h) (by decide)
    · rcases ht with rfl | rfl | rfl | rfl | rfl | rfl | rfl <;> exact absurd h (by decide)
    · exact ⟨rfl, by have e := sgInv_ok ht; rw [show sgOf t = 15 from h] at e; rw [← e]; decide⟩
    · exact absurd (show (-1 : Int32) = 15 from h) (by decide)
theorem sg16 {k : Int32} {t : Int64} {K : Int32} (h : kOf k t = K) (hv : kV k t) : (k = 4 ∧ t = 15421) ↔ K = 16 := by
  constructor
  · rintro ⟨rfl, rfl⟩
    rw [← h]; decide
  · intro hK
    rw [hK] at h
    rcases hv with rfl | rfl | rfl | ⟨rfl, ht⟩ | ⟨rfl, ht⟩ | rfl
    · exact absurd (show (58 : Int32) = 16 from h) (by decide)
    · exact absurd (show (40 : Int32) = 16 from h) (by decide)
    · exact absurd (show (41 : Int32) = 16 from h) (by decide)
    · rcases ht with rfl | rfl | rfl | rfl | rfl | rfl | rfl <;> exact absurd h (by decide)
    · exact ⟨rfl, by have e := sgInv_ok ht; rw [show sgOf t = 16 from h] at e; rw [← e]; decide⟩
    · exact absurd (show (-1 : Int32) = 16 from h) (by decide)
theorem sg17 {k : Int32} {t : Int64} {K : Int32} (h : kOf k t = K) (hv : kV k t) : (k = 4 ∧ t = 62) ↔ K = 17 := by
  constructor
  · rintro ⟨rfl, rfl⟩
    rw [← h]; decide
  · intro hK
    rw [hK] at h
    rcases hv with rfl | rfl | rfl | ⟨rfl, ht⟩ | ⟨rfl, ht⟩ | rfl
    · exact absurd (show (58 : Int32) = 17 from h) (by decide)
    · exact absurd (show (40 : Int32) = 17 from h) (by decide)
    · exact absurd (show (41 : Int32) = 17 from h) (by decide)
    · rcases ht with rfl | rfl | rfl | rfl | rfl | rfl | rfl <;> exact absurd h (by decide)
    · exact ⟨rfl, by have e := sgInv_ok ht; rw [show sgOf t = 17 from h] at e; rw [← e]; decide⟩
    · exact absurd (show (-1 : Int32) = 17 from h) (by decide)
theorem sg18 {k : Int32} {t : Int64} {K : Int32} (h : kOf k t = K) (hv : kV k t) : (k = 4 ∧ t = 15933) ↔ K = 18 := by
  constructor
  · rintro ⟨rfl, rfl⟩
    rw [← h]; decide
  · intro hK
    rw [hK] at h
    rcases hv with rfl | rfl | rfl | ⟨rfl, ht⟩ | ⟨rfl, ht⟩ | rfl
    · exact absurd (show (58 : Int32) = 18 from h) (by decide)
    · exact absurd (show (40 : Int32) = 18 from h) (by decide)
    · exact absurd (show (41 : Int32) = 18 from h) (by decide)
    · rcases ht with rfl | rfl | rfl | rfl | rfl | rfl | rfl <;> exact absurd h (by decide)
    · exact ⟨rfl, by have e := sgInv_ok ht; rw [show sgOf t = 18 from h] at e; rw [← e]; decide⟩
    · exact absurd (show (-1 : Int32) = 18 from h) (by decide)
theorem sg19 {k : Int32} {t : Int64} {K : Int32} (h : kOf k t = K) (hv : kV k t) : (k = 4 ∧ t = 15420) ↔ K = 19 := by
  constructor
  · rintro ⟨rfl, rfl⟩
    rw [← h]; decide
  · intro hK
    rw [hK] at h
    rcases hv with rfl | rfl | rfl | ⟨rfl, ht⟩ | ⟨rfl, ht⟩ | rfl
    · exact absurd (show (58 : Int32) = 19 from h) (by decide)
    · exact absurd (show (40 : Int32) = 19 from h) (by decide)
    · exact absurd (show (41 : Int32) = 19 from h) (by decide)
    · rcases ht with rfl | rfl | rfl | rfl | rfl | rfl | rfl <;> exact absurd h (by decide)
    · exact ⟨rfl, by have e := sgInv_ok ht; rw [show sgOf t = 19 from h] at e; rw [← e]; decide⟩
    · exact absurd (show (-1 : Int32) = 19 from h) (by decide)
theorem sg20 {k : Int32} {t : Int64} {K : Int32} (h : kOf k t = K) (hv : kV k t) : (k = 4 ∧ t = 15934) ↔ K = 20 := by
  constructor
  · rintro ⟨rfl, rfl⟩
    rw [← h]; decide
  · intro hK
    rw [hK] at h
    rcases hv with rfl | rfl | rfl | ⟨rfl, ht⟩ | ⟨rfl, ht⟩ | rfl
    · exact absurd (show (58 : Int32) = 20 from h) (by decide)
    · exact absurd (show (40 : Int32) = 20 from h) (by decide)
    · exact absurd (show (41 : Int32) = 20 from h) (by decide)
    · rcases ht with rfl | rfl | rfl | rfl | rfl | rfl | rfl <;> exact absurd h (by decide)
    · exact ⟨rfl, by have e := sgInv_ok ht; rw [show sgOf t = 20 from h] at e; rw [← e]; decide⟩
    · exact absurd (show (-1 : Int32) = 20 from h) (by decide)
theorem sg21 {k : Int32} {t : Int64} {K : Int32} (h : kOf k t = K) (hv : kV k t) : (k = 4 ∧ t = 43) ↔ K = 21 := by
  constructor
  · rintro ⟨rfl, rfl⟩
    rw [← h]; decide
  · intro hK
    rw [hK] at h
    rcases hv with rfl | rfl | rfl | ⟨rfl, ht⟩ | ⟨rfl, ht⟩ | rfl
    · exact absurd (show (58 : Int32) = 21 from h) (by decide)
    · exact absurd (show (40 : Int32) = 21 from h) (by decide)
    · exact absurd (show (41 : Int32) = 21 from h) (by decide)
    · rcases ht with rfl | rfl | rfl | rfl | rfl | rfl | rfl <;> exact absurd h (by decide)
    · exact ⟨rfl, by have e := sgInv_ok ht; rw [show sgOf t = 21 from h] at e; rw [← e]; decide⟩
    · exact absurd (show (-1 : Int32) = 21 from h) (by decide)
theorem sg22 {k : Int32} {t : Int64} {K : Int32} (h : kOf k t = K) (hv : kV k t) : (k = 4 ∧ t = 45) ↔ K = 22 := by
  constructor
  · rintro ⟨rfl, rfl⟩
    rw [← h]; decide
  · intro hK
    rw [hK] at h
    rcases hv with rfl | rfl | rfl | ⟨rfl, ht⟩ | ⟨rfl, ht⟩ | rfl
    · exact absurd (show (58 : Int32) = 22 from h) (by decide)
    · exact absurd (show (40 : Int32) = 22 from h) (by decide)
    · exact absurd (show (41 : Int32) = 22 from h) (by decide)
    · rcases ht with rfl | rfl | rfl | rfl | rfl | rfl | rfl <;> exact absurd h (by decide)
    · exact ⟨rfl, by have e := sgInv_ok ht; rw [show sgOf t = 22 from h] at e; rw [← e]; decide⟩
    · exact absurd (show (-1 : Int32) = 22 from h) (by decide)
theorem sg23 {k : Int32} {t : Int64} {K : Int32} (h : kOf k t = K) (hv : kV k t) : (k = 4 ∧ t = 42) ↔ K = 23 := by
  constructor
  · rintro ⟨rfl, rfl⟩
    rw [← h]; decide
  · intro hK
    rw [hK] at h
    rcases hv with rfl | rfl | rfl | ⟨rfl, ht⟩ | ⟨rfl, ht⟩ | rfl
    · exact absurd (show (58 : Int32) = 23 from h) (by decide)
    · exact absurd (show (40 : Int32) = 23 from h) (by decide)
    · exact absurd (show (41 : Int32) = 23 from h) (by decide)
    · rcases ht with rfl | rfl | rfl | rfl | rfl | rfl | rfl <;> exact absurd h (by decide)
    · exact ⟨rfl, by have e := sgInv_ok ht; rw [show sgOf t = 23 from h] at e; rw [← e]; decide⟩
    · exact absurd (show (-1 : Int32) = 23 from h) (by decide)
theorem sg27 {k : Int32} {t : Int64} {K : Int32} (h : kOf k t = K) (hv : kV k t) : (k = 4 ∧ t = 47) ↔ K = 27 := by
  constructor
  · rintro ⟨rfl, rfl⟩
    rw [← h]; decide
  · intro hK
    rw [hK] at h
    rcases hv with rfl | rfl | rfl | ⟨rfl, ht⟩ | ⟨rfl, ht⟩ | rfl
    · exact absurd (show (58 : Int32) = 27 from h) (by decide)
    · exact absurd (show (40 : Int32) = 27 from h) (by decide)
    · exact absurd (show (41 : Int32) = 27 from h) (by decide)
    · rcases ht with rfl | rfl | rfl | rfl | rfl | rfl | rfl <;> exact absurd h (by decide)
    · exact ⟨rfl, by have e := sgInv_ok ht; rw [show sgOf t = 27 from h] at e; rw [← e]; decide⟩
    · exact absurd (show (-1 : Int32) = 27 from h) (by decide)
theorem sg28 {k : Int32} {t : Int64} {K : Int32} (h : kOf k t = K) (hv : kV k t) : (k = 4 ∧ t = 37) ↔ K = 28 := by
  constructor
  · rintro ⟨rfl, rfl⟩
    rw [← h]; decide
  · intro hK
    rw [hK] at h
    rcases hv with rfl | rfl | rfl | ⟨rfl, ht⟩ | ⟨rfl, ht⟩ | rfl
    · exact absurd (show (58 : Int32) = 28 from h) (by decide)
    · exact absurd (show (40 : Int32) = 28 from h) (by decide)
    · exact absurd (show (41 : Int32) = 28 from h) (by decide)
    · rcases ht with rfl | rfl | rfl | rfl | rfl | rfl | rfl <;> exact absurd h (by decide)
    · exact ⟨rfl, by have e := sgInv_ok ht; rw [show sgOf t = 28 from h] at e; rw [← e]; decide⟩
    · exact absurd (show (-1 : Int32) = 28 from h) (by decide)
theorem sg25 {k : Int32} {t : Int64} {K : Int32} (h : kOf k t = K) (hv : kV k t) : (k = 4 ∧ t = 33) ↔ K = 25 := by
  constructor
  · rintro ⟨rfl, rfl⟩
    rw [← h]; decide
  · intro hK
    rw [hK] at h
    rcases hv with rfl | rfl | rfl | ⟨rfl, ht⟩ | ⟨rfl, ht⟩ | rfl
    · exact absurd (show (58 : Int32) = 25 from h) (by decide)
    · exact absurd (show (40 : Int32) = 25 from h) (by decide)
    · exact absurd (show (41 : Int32) = 25 from h) (by decide)
    · rcases ht with rfl | rfl | rfl | rfl | rfl | rfl | rfl <;> exact absurd h (by decide)
    · exact ⟨rfl, by have e := sgInv_ok ht; rw [show sgOf t = 25 from h] at e; rw [← e]; decide⟩
    · exact absurd (show (-1 : Int32) = 25 from h) (by decide)
theorem sg26 {k : Int32} {t : Int64} {K : Int32} (h : kOf k t = K) (hv : kV k t) : (k = 4 ∧ t = 126) ↔ K = 26 := by
  constructor
  · rintro ⟨rfl, rfl⟩
    rw [← h]; decide
  · intro hK
    rw [hK] at h
    rcases hv with rfl | rfl | rfl | ⟨rfl, ht⟩ | ⟨rfl, ht⟩ | rfl
    · exact absurd (show (58 : Int32) = 26 from h) (by decide)
    · exact absurd (show (40 : Int32) = 26 from h) (by decide)
    · exact absurd (show (41 : Int32) = 26 from h) (by decide)
    · rcases ht with rfl | rfl | rfl | rfl | rfl | rfl | rfl <;> exact absurd h (by decide)
    · exact ⟨rfl, by have e := sgInv_ok ht; rw [show sgOf t = 26 from h] at e; rw [← e]; decide⟩
    · exact absurd (show (-1 : Int32) = 26 from h) (by decide)
theorem wd42 {k : Int32} {t : Int64} {K : Int32} (h : kOf k t = K) (hv : kV k t) : (k = 3 ∧ t = 0) ↔ K = 42 := by
  constructor
  · rintro ⟨rfl, rfl⟩
    rw [← h]; decide
  · intro hK
    rw [hK] at h
    rcases hv with rfl | rfl | rfl | ⟨rfl, ht⟩ | ⟨rfl, ht⟩ | rfl
    · exact absurd (show (58 : Int32) = 42 from h) (by decide)
    · exact absurd (show (40 : Int32) = 42 from h) (by decide)
    · exact absurd (show (41 : Int32) = 42 from h) (by decide)
    · refine ⟨rfl, ?_⟩
      rcases ht with rfl | rfl | rfl | rfl | rfl | rfl | rfl <;> first | rfl | exact absurd h (by decide)
    · exact absurd (show sgOf t = 42 from h) (sgRng t).2.2.1
    · exact absurd (show (-1 : Int32) = 42 from h) (by decide)
theorem wd43 {k : Int32} {t : Int64} {K : Int32} (h : kOf k t = K) (hv : kV k t) : (k = 3 ∧ t = 1) ↔ K = 43 := by
  constructor
  · rintro ⟨rfl, rfl⟩
    rw [← h]; decide
  · intro hK
    rw [hK] at h
    rcases hv with rfl | rfl | rfl | ⟨rfl, ht⟩ | ⟨rfl, ht⟩ | rfl
    · exact absurd (show (58 : Int32) = 43 from h) (by decide)
    · exact absurd (show (40 : Int32) = 43 from h) (by decide)
    · exact absurd (show (41 : Int32) = 43 from h) (by decide)
    · refine ⟨rfl, ?_⟩
      rcases ht with rfl | rfl | rfl | rfl | rfl | rfl | rfl <;> first | rfl | exact absurd h (by decide)
    · exact absurd (show sgOf t = 43 from h) (sgRng t).2.2.2.1
    · exact absurd (show (-1 : Int32) = 43 from h) (by decide)
theorem wd44 {k : Int32} {t : Int64} {K : Int32} (h : kOf k t = K) (hv : kV k t) : (k = 3 ∧ t = 2) ↔ K = 44 := by
  constructor
  · rintro ⟨rfl, rfl⟩
    rw [← h]; decide
  · intro hK
    rw [hK] at h
    rcases hv with rfl | rfl | rfl | ⟨rfl, ht⟩ | ⟨rfl, ht⟩ | rfl
    · exact absurd (show (58 : Int32) = 44 from h) (by decide)
    · exact absurd (show (40 : Int32) = 44 from h) (by decide)
    · exact absurd (show (41 : Int32) = 44 from h) (by decide)
    · refine ⟨rfl, ?_⟩
      rcases ht with rfl | rfl | rfl | rfl | rfl | rfl | rfl <;> first | rfl | exact absurd h (by decide)
    · exact absurd (show sgOf t = 44 from h) (sgRng t).2.2.2.2.1
    · exact absurd (show (-1 : Int32) = 44 from h) (by decide)
theorem wd45 {k : Int32} {t : Int64} {K : Int32} (h : kOf k t = K) (hv : kV k t) : (k = 3 ∧ t = 3) ↔ K = 45 := by
  constructor
  · rintro ⟨rfl, rfl⟩
    rw [← h]; decide
  · intro hK
    rw [hK] at h
    rcases hv with rfl | rfl | rfl | ⟨rfl, ht⟩ | ⟨rfl, ht⟩ | rfl
    · exact absurd (show (58 : Int32) = 45 from h) (by decide)
    · exact absurd (show (40 : Int32) = 45 from h) (by decide)
    · exact absurd (show (41 : Int32) = 45 from h) (by decide)
    · refine ⟨rfl, ?_⟩
      rcases ht with rfl | rfl | rfl | rfl | rfl | rfl | rfl <;> first | rfl | exact absurd h (by decide)
    · exact absurd (show sgOf t = 45 from h) (sgRng t).2.2.2.2.2.1
    · exact absurd (show (-1 : Int32) = 45 from h) (by decide)
theorem wd46 {k : Int32} {t : Int64} {K : Int32} (h : kOf k t = K) (hv : kV k t) : (k = 3 ∧ t = 4) ↔ K = 46 := by
  constructor
  · rintro ⟨rfl, rfl⟩
    rw [← h]; decide
  · intro hK
    rw [hK] at h
    rcases hv with rfl | rfl | rfl | ⟨rfl, ht⟩ | ⟨rfl, ht⟩ | rfl
    · exact absurd (show (58 : Int32) = 46 from h) (by decide)
    · exact absurd (show (40 : Int32) = 46 from h) (by decide)
    · exact absurd (show (41 : Int32) = 46 from h) (by decide)
    · refine ⟨rfl, ?_⟩
      rcases ht with rfl | rfl | rfl | rfl | rfl | rfl | rfl <;> first | rfl | exact absurd h (by decide)
    · exact absurd (show sgOf t = 46 from h) (sgRng t).2.2.2.2.2.2.1
    · exact absurd (show (-1 : Int32) = 46 from h) (by decide)
theorem wd47 {k : Int32} {t : Int64} {K : Int32} (h : kOf k t = K) (hv : kV k t) : (k = 3 ∧ t = 5) ↔ K = 47 := by
  constructor
  · rintro ⟨rfl, rfl⟩
    rw [← h]; decide
  · intro hK
    rw [hK] at h
    rcases hv with rfl | rfl | rfl | ⟨rfl, ht⟩ | ⟨rfl, ht⟩ | rfl
    · exact absurd (show (58 : Int32) = 47 from h) (by decide)
    · exact absurd (show (40 : Int32) = 47 from h) (by decide)
    · exact absurd (show (41 : Int32) = 47 from h) (by decide)
    · refine ⟨rfl, ?_⟩
      rcases ht with rfl | rfl | rfl | rfl | rfl | rfl | rfl <;> first | rfl | exact absurd h (by decide)
    · exact absurd (show sgOf t = 47 from h) (sgRng t).2.2.2.2.2.2.2.1
    · exact absurd (show (-1 : Int32) = 47 from h) (by decide)
theorem wd48 {k : Int32} {t : Int64} {K : Int32} (h : kOf k t = K) (hv : kV k t) : (k = 3 ∧ t = 6) ↔ K = 48 := by
  constructor
  · rintro ⟨rfl, rfl⟩
    rw [← h]; decide
  · intro hK
    rw [hK] at h
    rcases hv with rfl | rfl | rfl | ⟨rfl, ht⟩ | ⟨rfl, ht⟩ | rfl
    · exact absurd (show (58 : Int32) = 48 from h) (by decide)
    · exact absurd (show (40 : Int32) = 48 from h) (by decide)
    · exact absurd (show (41 : Int32) = 48 from h) (by decide)
    · refine ⟨rfl, ?_⟩
      rcases ht with rfl | rfl | rfl | rfl | rfl | rfl | rfl <;> first | rfl | exact absurd h (by decide)
    · exact absurd (show sgOf t = 48 from h) (sgRng t).2.2.2.2.2.2.2.2.1
    · exact absurd (show (-1 : Int32) = 48 from h) (by decide)
theorem kd58 {k : Int32} {t : Int64} {K : Int32} (h : kOf k t = K) (hv : kV k t) : k = 0 ↔ K = 58 := by
  constructor
  · rintro rfl
    exact h.symm
  · intro hK
    rw [hK] at h
    rcases hv with rfl | rfl | rfl | ⟨rfl, ht⟩ | ⟨rfl, ht⟩ | rfl
    · rfl
    · exact absurd (show (40 : Int32) = 58 from h) (by decide)
    · exact absurd (show (41 : Int32) = 58 from h) (by decide)
    · rcases ht with rfl | rfl | rfl | rfl | rfl | rfl | rfl <;> exact absurd h (by decide)
    · exact absurd (show sgOf t = 58 from h) (sgRng t).2.2.2.2.2.2.2.2.2
    · exact absurd (show (-1 : Int32) = 58 from h) (by decide)
theorem kd40 {k : Int32} {t : Int64} {K : Int32} (h : kOf k t = K) (hv : kV k t) : k = 1 ↔ K = 40 := by
  constructor
  · rintro rfl
    exact h.symm
  · intro hK
    rw [hK] at h
    rcases hv with rfl | rfl | rfl | ⟨rfl, ht⟩ | ⟨rfl, ht⟩ | rfl
    · exact absurd (show (58 : Int32) = 40 from h) (by decide)
    · rfl
    · exact absurd (show (41 : Int32) = 40 from h) (by decide)
    · rcases ht with rfl | rfl | rfl | rfl | rfl | rfl | rfl <;> exact absurd h (by decide)
    · exact absurd (show sgOf t = 40 from h) (sgRng t).1
    · exact absurd (show (-1 : Int32) = 40 from h) (by decide)
theorem kd41 {k : Int32} {t : Int64} {K : Int32} (h : kOf k t = K) (hv : kV k t) : k = 2 ↔ K = 41 := by
  constructor
  · rintro rfl
    exact h.symm
  · intro hK
    rw [hK] at h
    rcases hv with rfl | rfl | rfl | ⟨rfl, ht⟩ | ⟨rfl, ht⟩ | rfl
    · exact absurd (show (58 : Int32) = 41 from h) (by decide)
    · exact absurd (show (40 : Int32) = 41 from h) (by decide)
    · rfl
    · rcases ht with rfl | rfl | rfl | rfl | rfl | rfl | rfl <;> exact absurd h (by decide)
    · exact absurd (show sgOf t = 41 from h) (sgRng t).2.1
    · exact absurd (show (-1 : Int32) = 41 from h) (by decide)
theorem kdm1 {k : Int32} {t : Int64} {K : Int32} (h : kOf k t = K) (hv : kV k t) : k = 5 ↔ K = -1 := by
  constructor
  · rintro rfl
    exact h.symm
  · intro hK
    rw [hK] at h
    rcases hv with rfl | rfl | rfl | ⟨rfl, ht⟩ | ⟨rfl, ht⟩ | rfl
    · exact absurd (show (58 : Int32) = -1 from h) (by decide)
    · exact absurd (show (40 : Int32) = -1 from h) (by decide)
    · exact absurd (show (41 : Int32) = -1 from h) (by decide)
    · rcases ht with rfl | rfl | rfl | rfl | rfl | rfl | rfl <;> exact absurd h (by decide)
    · exact absurd h ht
    · rfl
theorem lxSig_V (c d : Int32) : kV (lxSig c d).1 (lxSig c d).2.1 := by
  unfold lxSig
  split
  · rename_i h
    unfold lxMore at h
    rw [decide_eq_true_eq] at h
    refine Or.inr (Or.inr (Or.inr (Or.inr (Or.inl ⟨rfl, ?_⟩))))
    rcases h with ⟨h1, rfl⟩ | ⟨h1, rfl⟩
    · rcases h1 with rfl | rfl | rfl | rfl <;> decide
    · rcases h1 with rfl | rfl | rfl | rfl <;> decide
  · split
    · rename_i h
      refine Or.inr (Or.inr (Or.inr (Or.inr (Or.inl ⟨rfl, ?_⟩))))
      unfold lxAlone lxOpen at h
      rw [decide_eq_true_eq, decide_eq_true_eq] at h
      rcases h with h | h
      · rcases h with rfl | rfl | rfl | rfl | rfl | rfl | rfl | rfl | rfl | rfl | rfl | rfl | rfl | rfl | rfl <;> decide
      · rcases h with rfl | rfl | rfl | rfl | rfl | rfl <;> decide
    · exact Or.inr (Or.inr (Or.inr (Or.inr (Or.inr rfl))))
theorem lxKw_V (t : Int64) : kV (lxKw t).1 (lxKw t).2 := by
  unfold lxKw
  repeat' split
  all_goals first | exact Or.inr (Or.inl rfl) | exact Or.inr (Or.inr (Or.inr (Or.inl ⟨rfl, by decide⟩)))
theorem lxTok_V (x : Nat → Int32) (n p : Nat) : kV (lxTok x n p).2.2.1 (lxTok x n p).2.2.2 := by
  unfold lxTok
  generalize lxRun lxB x (n - p) p = q
  simp only []
  split
  · exact Or.inl rfl
  · split
    · show kV (lxName x n q).2.1 (lxName x n q).2.2
      unfold lxName
      split
      · exact Or.inr (Or.inr (Or.inr (Or.inr (Or.inr rfl))))
      · exact lxKw_V _
    · split
      · show kV (lxNumb x n q).2.1 (lxNumb x n q).2.2
        unfold lxNumb
        split
        · exact Or.inr (Or.inr (Or.inr (Or.inr (Or.inr rfl))))
        · exact Or.inr (Or.inr (Or.inl rfl))
      · exact lxSig_V _ _
theorem levelR {N : Nat} {τ : zSt} {t : Int64} (h : sgOf t ≠ -1) : fX12_level N t τ = some (nI (rk (sgOf t)) - 1, τ) := by
  rcases sg_in h with rfl | rfl | rfl | rfl | rfl | rfl | rfl | rfl | rfl | rfl | rfl | rfl | rfl | rfl | rfl | rfl | rfl | rfl | rfl | rfl | rfl | rfl | rfl | rfl | rfl | rfl | rfl | rfl | rfl <;> rfl
theorem opOfR {N : Nat} {τ : zSt} {t : Int64} (h : 0 < rk (sgOf t)) : fX12_opOf N t τ = some (if sgOf t = 8 ∨ sgOf t = 9 then 28 else sgOf t, τ) := by
  have h1 : sgOf t ≠ -1 := fun q => by rw [q] at h; exact absurd h (by decide)
  rcases sg_in h1 with rfl | rfl | rfl | rfl | rfl | rfl | rfl | rfl | rfl | rfl | rfl | rfl | rfl | rfl | rfl | rfl | rfl | rfl | rfl | rfl | rfl | rfl | rfl | rfl | rfl | rfl | rfl | rfl | rfl <;> first | rfl | exact absurd h (by decide)
