/-! PURE: both readers come to the same tokens -/
/-- the class's number of a sign that the reference tells as t -/
def sgOf (t : Int64) : Int32 := if t = 40 then 49 else if t = 41 then 50 else if t = 123 then 51 else if t = 125 then 52 else if t = 91 then 53 else if t = 93 then 54 else if t = 44 then 55 else if t = 59 then 56 else if t = 61 then 57 else if t = 31868 then 9 else if t = 9766 then 8 else if t = 124 then 10 else if t = 94 then 11 else if t = 38 then 12 else if t = 15677 then 13 else if t = 8509 then 14 else if t = 60 then 15 else if t = 15421 then 16 else if t = 62 then 17 else if t = 15933 then 18 else if t = 15420 then 19 else if t = 15934 then 20 else if t = 43 then 21 else if t = 45 then 22 else if t = 42 then 23 else if t = 47 then 27 else if t = 37 then 28 else if t = 33 then 25 else if t = 126 then 26 else -1
def kOf (k : Int32) (t : Int64) : Int32 := if k = 0 then 58 else if k = 1 then 40 else if k = 2 then 41 else if k = 3 then 42 + t.toInt32 else if k = 4 then sgOf t else -1
theorem lxSignC_no (c : Int32) (h1 : ¬ lxAlone c = true) (h2 : ¬ lxOpen c = true) : lxSignC c = -1 := by
  have fin : ∀ k : Nat, k < 127 → lxAlone (nI k) = true ∨ lxOpen (nI k) = true ∨ lxSignC (nI k) = -1 := by decide +kernel
  by_cases hc : ∃ k, k < 127 ∧ c = nI k
  · obtain ⟨k, hk, rfl⟩ := hc
    rcases fin k hk with q | q | q
    · exact absurd q h1
    · exact absurd q h2
    · exact q
  · have hne : ∀ k : Nat, k < 127 → ¬ c = nI k := fun k hk q => hc ⟨k, hk, q⟩
    unfold lxSignC
    rw [if_neg (show ¬ c = (33 : Int32) from hne 33 (by decide)), if_neg (show ¬ c = (34 : Int32) from hne 34 (by decide)), if_neg (show ¬ c = (35 : Int32) from hne 35 (by decide)), if_neg (show ¬ c = (36 : Int32) from hne 36 (by decide)), if_neg (show ¬ c = (37 : Int32) from hne 37 (by decide)), if_neg (show ¬ c = (38 : Int32) from hne 38 (by decide)), if_neg (show ¬ c = (39 : Int32) from hne 39 (by decide)), if_neg (show ¬ c = (40 : Int32) from hne 40 (by decide)), if_neg (show ¬ c = (41 : Int32) from hne 41 (by decide)), if_neg (show ¬ c = (42 : Int32) from hne 42 (by decide)), if_neg (show ¬ c = (43 : Int32) from hne 43 (by decide)), if_neg (show ¬ c = (44 : Int32) from hne 44 (by decide)), if_neg (show ¬ c = (45 : Int32) from hne 45 (by decide)), if_neg (show ¬ c = (46 : Int32) from hne 46 (by decide)), if_neg (show ¬ c = (47 : Int32) from hne 47 (by decide)), if_neg (show ¬ c = (48 : Int32) from hne 48 (by decide)), if_neg (show ¬ c = (49 : Int32) from hne 49 (by decide)), if_neg (show ¬ c = (50 : Int32) from hne 50 (by decide)), if_neg (show ¬ c = (51 : Int32) from hne 51 (by decide)), if_neg (show ¬ c = (52 : Int32) from hne 52 (by decide)), if_neg (show ¬ c = (53 : Int32) from hne 53 (by decide)), if_neg (show ¬ c = (54 : Int32) from hne 54 (by decide)), if_neg (show ¬ c = (55 : Int32) from hne 55 (by decide)), if_neg (show ¬ c = (56 : Int32) from hne 56 (by decide)), if_neg (show ¬ c = (57 : Int32) from hne 57 (by decide)), if_neg (show ¬ c = (58 : Int32) from hne 58 (by decide)), if_neg (show ¬ c = (59 : Int32) from hne 59 (by decide)), if_neg (show ¬ c = (60 : Int32) from hne 60 (by decide)), if_neg (show ¬ c = (61 : Int32) from hne 61 (by decide)), if_neg (show ¬ c = (62 : Int32) from hne 62 (by decide)), if_neg (show ¬ c = (63 : Int32) from hne 63 (by decide)), if_neg (show ¬ c = (64 : Int32) from hne 64 (by decide)), if_neg (show ¬ c = (65 : Int32) from hne 65 (by decide)), if_neg (show ¬ c = (66 : Int32) from hne 66 (by decide)), if_neg (show ¬ c = (67 : Int32) from hne 67 (by decide)), if_neg (show ¬ c = (68 : Int32) from hne 68 (by decide)), if_neg (show ¬ c = (69 : Int32) from hne 69 (by decide)), if_neg (show ¬ c = (70 : Int32) from hne 70 (by decide)), if_neg (show ¬ c = (71 : Int32) from hne 71 (by decide)), if_neg (show ¬ c = (72 : Int32) from hne 72 (by decide)), if_neg (show ¬ c = (73 : Int32) from hne 73 (by decide)), if_neg (show ¬ c = (74 : Int32) from hne 74 (by decide)), if_neg (show ¬ c = (75 : Int32) from hne 75 (by decide)), if_neg (show ¬ c = (76 : Int32) from hne 76 (by decide)), if_neg (show ¬ c = (77 : Int32) from hne 77 (by decide)), if_neg (show ¬ c = (78 : Int32) from hne 78 (by decide)), if_neg (show ¬ c = (79 : Int32) from hne 79 (by decide)), if_neg (show ¬ c = (80 : Int32) from hne 80 (by decide)), if_neg (show ¬ c = (81 : Int32) from hne 81 (by decide)), if_neg (show ¬ c = (82 : Int32) from hne 82 (by decide)), if_neg (show ¬ c = (83 : Int32) from hne 83 (by decide)), if_neg (show ¬ c = (84 : Int32) from hne 84 (by decide)), if_neg (show ¬ c = (85 : Int32) from hne 85 (by decide)), if_neg (show ¬ c = (86 : Int32) from hne 86 (by decide)), if_neg (show ¬ c = (87 : Int32) from hne 87 (by decide)), if_neg (show ¬ c = (88 : Int32) from hne 88 (by decide)), if_neg (show ¬ c = (89 : Int32) from hne 89 (by decide)), if_neg (show ¬ c = (90 : Int32) from hne 90 (by decide)), if_neg (show ¬ c = (91 : Int32) from hne 91 (by decide)), if_neg (show ¬ c = (92 : Int32) from hne 92 (by decide)), if_neg (show ¬ c = (93 : Int32) from hne 93 (by decide)), if_neg (show ¬ c = (94 : Int32) from hne 94 (by decide)), if_neg (show ¬ c = (95 : Int32) from hne 95 (by decide)), if_neg (show ¬ c = (96 : Int32) from hne 96 (by decide)), if_neg (show ¬ c = (97 : Int32) from hne 97 (by decide)), if_neg (show ¬ c = (98 : Int32) from hne 98 (by decide)), if_neg (show ¬ c = (99 : Int32) from hne 99 (by decide)), if_neg (show ¬ c = (100 : Int32) from hne 100 (by decide)), if_neg (show ¬ c = (101 : Int32) from hne 101 (by decide)), if_neg (show ¬ c = (102 : Int32) from hne 102 (by decide)), if_neg (show ¬ c = (103 : Int32) from hne 103 (by decide)), if_neg (show ¬ c = (104 : Int32) from hne 104 (by decide)), if_neg (show ¬ c = (105 : Int32) from hne 105 (by decide)), if_neg (show ¬ c = (106 : Int32) from hne 106 (by decide)), if_neg (show ¬ c = (107 : Int32) from hne 107 (by decide)), if_neg (show ¬ c = (108 : Int32) from hne 108 (by decide)), if_neg (show ¬ c = (109 : Int32) from hne 109 (by decide)), if_neg (show ¬ c = (110 : Int32) from hne 110 (by decide)), if_neg (show ¬ c = (111 : Int32) from hne 111 (by decide)), if_neg (show ¬ c = (112 : Int32) from hne 112 (by decide)), if_neg (show ¬ c = (113 : Int32) from hne 113 (by decide)), if_neg (show ¬ c = (114 : Int32) from hne 114 (by decide)), if_neg (show ¬ c = (115 : Int32) from hne 115 (by decide)), if_neg (show ¬ c = (116 : Int32) from hne 116 (by decide)), if_neg (show ¬ c = (117 : Int32) from hne 117 (by decide)), if_neg (show ¬ c = (118 : Int32) from hne 118 (by decide)), if_neg (show ¬ c = (119 : Int32) from hne 119 (by decide)), if_neg (show ¬ c = (120 : Int32) from hne 120 (by decide)), if_neg (show ¬ c = (121 : Int32) from hne 121 (by decide)), if_neg (show ¬ c = (122 : Int32) from hne 122 (by decide)), if_neg (show ¬ c = (123 : Int32) from hne 123 (by decide)), if_neg (show ¬ c = (124 : Int32) from hne 124 (by decide)), if_neg (show ¬ c = (125 : Int32) from hne 125 (by decide)), if_neg (show ¬ c = (126 : Int32) from hne 126 (by decide))]
theorem sig_rel (c d d2 : Int32) (hd : d2 = d ∨ (d = -1 ∧ d2 = 0)) : (lxPairC c d2 = -1 → (lxSig c d).2.2 = 1 ∧ lxSignC c = kOf (lxSig c d).1 (lxSig c d).2.1) ∧ (¬ lxPairC c d2 = -1 → (lxSig c d).2.2 = 2 ∧ lxPairC c d2 = kOf (lxSig c d).1 (lxSig c d).2.1) := by
  by_cases hm : lxMore c d = true
  · have hm' := hm
    unfold lxMore at hm'
    simp only [decide_eq_true_eq] at hm'
    have e2 : d2 = d := by
      rcases hd with q | ⟨q, -⟩
      · exact q
      · exfalso
        subst q
        revert hm'
        rintro (⟨-, q⟩ | ⟨q | q | q | q, r⟩)
        · revert q; decide
        all_goals (subst q; revert r; decide)
    subst e2
    rcases hm' with ⟨q | q | q | q, r⟩ | ⟨q | q | q | q, r⟩ <;> subst q <;> subst r <;> decide
  · have hp : lxPairC c d2 = -1 := by
      have hm' := hm
      unfold lxMore at hm'
      simp only [decide_eq_true_eq] at hm'
      unfold lxPairC
      by_cases a : d2 = 61
      · have e2 : d = 61 := by
          rcases hd with q | ⟨-, q⟩
          · rw [← q]; exact a
          · rw [q] at a; exact absurd a (by decide)
        rw [if_pos a, if_neg (fun q => hm' (Or.inl ⟨Or.inr (Or.inl q), e2⟩)), if_neg (fun q => hm' (Or.inl ⟨Or.inr (Or.inr (Or.inl q)), e2⟩)), if_neg (fun q => hm' (Or.inl ⟨Or.inl q, e2⟩)), if_neg (fun q => hm' (Or.inl ⟨Or.inr (Or.inr (Or.inr q)), e2⟩))]
      · rw [if_neg a]
        by_cases b : c = d2
        · rw [if_pos b]
          by_cases z : c = 0
          · rw [z]; decide
          · have e2 : d = c := by
              rcases hd with q | ⟨-, q⟩
              · rw [← q]; exact b.symm
              · exact absurd (b.trans q) z
            rw [if_neg (fun q => hm' (Or.inr ⟨Or.inr (Or.inl q), e2⟩)), if_neg (fun q => hm' (Or.inr ⟨Or.inr (Or.inr (Or.inl q)), e2⟩)), if_neg (fun q => hm' (Or.inr ⟨Or.inr (Or.inr (Or.inr q)), e2⟩)), if_neg (fun q => hm' (Or.inr ⟨Or.inl q, e2⟩))]
        · rw [if_neg b]
    refine ⟨fun _ => ?_, fun q => absurd hp q⟩
    unfold lxSig
    rw [if_neg hm]
    by_cases ho : lxAlone c = true ∨ lxOpen c = true
    · rw [if_pos ho]
      unfold lxAlone lxOpen at ho
      simp only [decide_eq_true_eq] at ho
      rcases ho with (q | q | q | q | q | q | q | q | q | q | q | q | q | q | q) | (q | q | q | q | q | q) <;> subst q <;> decide
    · rw [if_neg ho]
      exact ⟨rfl, lxSignC_no c (fun q => ho (Or.inl q)) (fun q => ho (Or.inr q))⟩
theorem kw_rel (t : Int64) : lxKwC t = kOf (lxKw t).1 (lxKw t).2 ∧ ((lxKw t).1 = 1 → (lxKw t).2 = t) ∧ ((lxKw t).1 = 1 ∨ (lxKw t).1 = 3) := by
  unfold lxKwC lxKw
  repeat' split
  all_goals first | exact ⟨rfl, fun _ => rfl, Or.inl rfl⟩ | exact ⟨by decide, fun q => absurd q (by decide), Or.inr rfl⟩
/-- the tokens are the same: end, place, kind; a NAME's word, a NUMBER's value -/
theorem tok_rel (x : Nat → Int32) (n p : Nat) : (lxTokC x n p).1 = (lxTok x n p).1 ∧ (lxTokC x n p).2.1 = (lxTok x n p).2.1 ∧ (lxTokC x n p).2.2.1 = kOf (lxTok x n p).2.2.1 (lxTok x n p).2.2.2 ∧
    ((lxTok x n p).2.2.1 = 1 → (lxTokC x n p).2.2.2.1 = some (lxTok x n p).2.2.2) ∧ ((lxTok x n p).2.2.1 = 2 → (lxTokC x n p).2.2.2.2 = some (lxTok x n p).2.2.2) := by
  unfold lxTokC lxTok
  generalize lxRun lxB x (n - p) p = q
  simp only []
  by_cases e : n ≤ q
  · simp only [if_pos e]
    exact ⟨trivial, trivial, by decide, fun z => absurd z (by decide), fun z => absurd z (by decide)⟩
  · simp only [if_neg e]
    by_cases c1 : lxD (x q) = true
    · have c2 : ¬ lxL (x q) = true := by
        intro c2
        unfold lxD at c1
        unfold lxL at c2
        simp only [decide_eq_true_eq, Int32.le_iff_toInt_le, ← Int32.toInt_inj, show (97 : Int32).toInt = 97 from rfl, show (122 : Int32).toInt = 122 from rfl, show (65 : Int32).toInt = 65 from rfl, show (90 : Int32).toInt = 90 from rfl, show (95 : Int32).toInt = 95 from rfl, show (48 : Int32).toInt = 48 from rfl, show (57 : Int32).toInt = 57 from rfl] at c1 c2
        omega
      simp only [if_pos c1, if_neg c2]
      unfold lxNumb
      by_cases g : 10 < lxRun lxD x (n - q) q - q
      · simp only [if_pos g]
        exact ⟨trivial, trivial, by decide, fun z => absurd z (by decide), fun z => absurd z (by decide)⟩
      · simp only [if_neg g]
        refine ⟨trivial, trivial, by unfold kOf; rw [if_neg (by decide), if_neg (by decide), if_pos rfl], fun z => absurd z (by decide), fun _ => ?_⟩
        rw [show min (lxRun lxD x (n - q) q - q) 10 = lxRun lxD x (n - q) q - q by omega]
        obtain ⟨r1, r2⟩ := lxRun_le lxD x (n - q) q
        rw [lxNu_same x _ q 0 (fun j h1 h2 => lxRun_all lxD x (n - q) q j h1 (by omega))]
    · simp only [if_neg c1]
      by_cases c2 : lxL (x q) = true
      · simp only [if_pos c2]
        unfold lxName
        obtain ⟨k1, k2, k3⟩ := kw_rel (lxWd x (lxRun lxLD x (n - q) q - q) q 0)
        by_cases g : 8 < lxRun lxLD x (n - q) q - q
        · simp only [if_pos g]
          exact ⟨trivial, trivial, by decide, fun z => absurd z (by decide), fun z => absurd z (by decide)⟩
        · simp only [if_neg g]
          refine ⟨trivial, trivial, k1, fun z => by rw [k2 z], fun z => ?_⟩
          rcases k3 with w | w
          · rw [w] at z; exact absurd z (by decide)
          · rw [w] at z; exact absurd z (by decide)
      · simp only [if_neg c2]
        have hs := sig_rel (x q) (if q + 1 < n then x (q + 1) else -1) (if q + 1 < n then x (q + 1) else 0) (by
          by_cases g : q + 1 < n
          · rw [if_pos g, if_pos g]; exact Or.inl rfl
          · rw [if_neg g, if_neg g]; exact Or.inr ⟨rfl, rfl⟩)
        generalize (if q + 1 < n then x (q + 1) else (-1 : Int32)) = d at hs ⊢
        generalize (if q + 1 < n then x (q + 1) else (0 : Int32)) = d2 at hs ⊢
        have hk : (lxSig (x q) d).1 = 4 ∨ (lxSig (x q) d).1 = 5 := by
          unfold lxSig
          repeat' split
          all_goals first | exact Or.inl rfl | exact Or.inr rfl
        have h1 : ¬ (lxSig (x q) d).1 = 1 := by rcases hk with w | w <;> rw [w] <;> decide
        have h2 : ¬ (lxSig (x q) d).1 = 2 := by rcases hk with w | w <;> rw [w] <;> decide
        by_cases g : lxPairC (x q) d2 = -1
        · obtain ⟨g1, g2⟩ := hs.1 g
          simp only [if_pos g]
          exact ⟨by rw [g1], trivial, g2, fun z => absurd z h1, fun z => absurd z h2⟩
        · obtain ⟨g1, g2⟩ := hs.2 g
          simp only [if_neg g]
          exact ⟨by rw [g1], trivial, g2, fun z => absurd z h1, fun z => absurd z h2⟩
