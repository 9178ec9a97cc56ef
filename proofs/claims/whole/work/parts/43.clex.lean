/-! PURE: the class's reader of tokens -/
theorem nI_bv (c : Int32) : c = nI c.toBitVec.toNat := by
  apply Int32.toBitVec_inj.mp
  apply BitVec.eq_of_toNat_eq
  rw [pk_tn c.toBitVec.isLt]
theorem lx_or (c : Int32) : (97 ≤ c ||| 32 ∧ c ||| 32 ≤ 122) ↔ ((97 ≤ c ∧ c ≤ 122) ∨ (65 ≤ c ∧ c ≤ 90)) := by
  have fin : ∀ k : Nat, k < 128 → ((97 ≤ nI k ||| 32 ∧ nI k ||| 32 ≤ 122) ↔ ((97 ≤ nI k ∧ nI k ≤ 122) ∨ (65 ≤ nI k ∧ nI k ≤ 90))) := by decide +kernel
  by_cases hc : c.toBitVec.toNat < 128
  · rw [nI_bv c]
    exact fin _ hc
  · constructor
    · rintro ⟨h1, h2⟩
      exfalso
      obtain ⟨j, hj, e⟩ := nI_of (x := c ||| 32) (fun q => by
        rw [Int32.lt_iff_toInt_lt] at q
        rw [Int32.le_iff_toInt_le] at h1
        have e1 : (97 : Int32).toInt = 97 := rfl
        have e2 : (0 : Int32).toInt = 0 := rfl
        omega)
      rw [e] at h2
      have h3 : j ≤ 122 := (nI_le' (a := j) (b := 122) hj (by omega)).mp h2
      have e3 : (c ||| 32).toBitVec.toNat = j := by rw [e, pk_tn (by omega)]
      have e4 : c.toBitVec.toNat ≤ (c ||| 32).toBitVec.toNat := by
        rw [Int32.toBitVec_or, BitVec.toNat_or]
        exact Nat.left_le_or
      omega
    · intro h
      exfalso
      have h0 : ¬ c < 0 := fun q => by
        rw [Int32.lt_iff_toInt_lt] at q
        simp only [Int32.le_iff_toInt_le] at h
        have e1 : (97 : Int32).toInt = 97 := rfl
        have e2 : (0 : Int32).toInt = 0 := rfl
        have e3 : (65 : Int32).toInt = 65 := rfl
        omega
      obtain ⟨j, hj, rfl⟩ := nI_of h0
      rw [pk_tn (by omega)] at hc
      have h5 : j ≤ 122 := by
        rcases h with ⟨-, h⟩ | ⟨-, h⟩
        · exact (nI_le' (a := j) (b := 122) hj (by omega)).mp h
        · have := (nI_le' (a := j) (b := 90) hj (by omega)).mp h
          omega
      omega
/-- the class's text: n signs x, c cells -/
def srcC (x : Nat → Int32) (n : Nat) (ln : Nat → Nat) (σ : zSt) : Prop := zI σ 1 1 = nI n ∧ n ≤ ln 15 ∧ ln 15 ≤ 4096 ∧ ∀ j, j < n → zA σ 15 j = x j
theorem srcC_I {x : Nat → Int32} {n : Nat} {ln : Nat → Nat} {σ : zSt} (h : srcC x n ln σ) (o k : Nat) (v : Int32) (hk : ¬ (1 = o ∧ 1 = k)) : srcC x n ln (zsI σ o k v) := by
  refine ⟨?_, h.2.1, h.2.2.1, h.2.2.2⟩
  rw [zI_I, if_neg hk]
  exact h.1
theorem srcC_L {x : Nat → Int32} {n : Nat} {ln : Nat → Nat} {σ : zSt} (h : srcC x n ln σ) (o k : Nat) (v : Int64) : srcC x n ln (zsL σ o k v) := h
theorem isDigitC {ln : Nat → Nat} {N M : Nat} {σ : zSt} (c : Int32) : fX7_isDigit ln N M c σ = some (if lxD c = true then (1 : Int32) else 0, σ) := by
  unfold fX7_isDigit lxD
  simp only [decide_eq_true_eq, Int32.lt_iff_toInt_lt, Int32.le_iff_toInt_le, show (48 : Int32).toInt = 48 from rfl, show (57 : Int32).toInt = 57 from rfl]
  repeat' split
  all_goals first | rfl | (exfalso; omega)
theorem skipC {ln : Nat → Nat} {N M n : Nat} {x : Nat → Int32} : ∀ (m p : Nat) (σ : zSt), srcC x n ln σ → zI σ 1 2 = nI p → p ≤ n → n - p < m → fX7_skipBlanks_b0 ln N M m σ = some ((), zsI σ 1 2 (nI (lxRun lxB x (n - p) p))) := by
  intro m
  induction m with
  | zero => intro p σ h hp hpn hm; omega
  | succ m ih =>
    intro p σ h hp hpn hm
    obtain ⟨hs, hn, hc, hx⟩ := h
    rw [fX7_skipBlanks_b0, hs, hp]
    by_cases e : n ≤ p
    · have e0 : n - p = 0 := by omega
      rw [if_pos ((nI_le' (by omega) (by omega)).mpr e), e0, lxRun, ← hp, zsI_self]
    · have hin := ix_ok (n := p) (k := ln 15) (by omega) (by omega)
      have hin2 := hin
      rw [nI_clamp (by omega)] at hin2
      have e1 : n - p = (n - (p + 1)) + 1 := by omega
      have hstep : fX7_skipBlanks_b39 ln N M (fX7_skipBlanks_b0 ln N M m) σ = some ((), zsI σ 1 2 (nI (lxRun lxB x (n - (p + 1)) (p + 1)))) := by
        unfold fX7_skipBlanks_b39
        rw [bnd_e, hp, nI_1, ih (p + 1) (zsI σ 1 2 (nI (p + 1))) (srcC_I ⟨hs, hn, hc, hx⟩ 1 2 _ (by decide)) (zI_s _ _ _ _) (by omega) (by omega), zsI_I]
      rw [if_neg (fun q => e ((nI_le' (by omega) (by omega)).mp q)), if_neg hin, nI_clamp (by omega), hx p (by omega), e1, lxRun]
      by_cases c1 : x p = 32
      · rw [if_pos c1, if_pos (by simp [lxB, c1]), hstep]
      · rw [if_neg c1, if_neg hin2]
        by_cases c2 : x p = 10
        · rw [if_pos c2, if_pos (by simp [lxB, c2]), hstep]
        · rw [if_neg c2, if_neg (by simp [lxB, c1, c2]), ← hp, zsI_self]
/-- the loop of comeWord: the word grows with the place -/
theorem wordC_step {ln : Nat → Nat} {N M : Nat} {k : zSt → Option (Int32 × zSt)} {c : Int32} {σ : zSt} : (if (c ||| 32) < (97 : Int32) then fX7_comeWord_b43 ln N M k c σ else if (c ||| 32) ≤ (122 : Int32) then fX7_comeWord_b49 ln N M k c σ else fX7_comeWord_b43 ln N M k c σ) = if lxLD c = true then fX7_comeWord_b74 ln N M k c σ else fX7_comeWord_b101 ln N M σ := by
  have h := lx_or c
  unfold fX7_comeWord_b43 fX7_comeWord_b49 fX7_comeWord_b54 lxLD lxL lxD
  simp only [Bool.or_eq_true, decide_eq_true_eq] at *
  have e97 : ∀ z : Int32, (¬ z < 97) ↔ 97 ≤ z := fun z => by
    rw [Int32.lt_iff_toInt_lt, Int32.le_iff_toInt_le]
    omega
  have e48 : ∀ z : Int32, (¬ z < 48) ↔ 48 ≤ z := fun z => by
    rw [Int32.lt_iff_toInt_lt, Int32.le_iff_toInt_le]
    omega
  by_cases a1 : (c ||| 32) < 97
  · have b1 : ¬ (97 ≤ c ||| 32 ∧ c ||| 32 ≤ 122) := fun q => ((e97 _).mpr q.1) a1
    have b2 := fun q => b1 (h.mpr q)
    rw [if_pos a1]
    by_cases a2 : c = 95
    · rw [if_pos a2, if_neg (by decide), if_pos (Or.inl (Or.inr (Or.inr a2)))]
    · rw [if_neg a2, if_pos trivial]
      by_cases a3 : c < 48
      · rw [if_pos a3, if_neg]
        rintro ((q | q | q) | q)
        · exact b2 (Or.inl q)
        · exact b2 (Or.inr q)
        · exact a2 q
        · exact (e48 c).mpr q.1 a3
      · rw [if_neg a3]
        by_cases a4 : c ≤ 57
        · rw [if_pos a4, if_pos (Or.inr ⟨(e48 c).mp a3, a4⟩)]
        · rw [if_neg a4, if_neg]
          rintro ((q | q | q) | q)
          · exact b2 (Or.inl q)
          · exact b2 (Or.inr q)
          · exact a2 q
          · exact a4 q.2
  · rw [if_neg a1]
    by_cases a0 : (c ||| 32) ≤ 122
    · have b1 := h.mp ⟨(e97 _).mp a1, a0⟩
      rw [if_pos a0, if_neg (by decide), if_pos]
      rcases b1 with q | q
      · exact Or.inl (Or.inl q)
      · exact Or.inl (Or.inr (Or.inl q))
    · have b1 : ¬ (97 ≤ c ||| 32 ∧ c ||| 32 ≤ 122) := fun q => a0 q.2
      have b2 := fun q => b1 (h.mpr q)
      rw [if_neg a0]
      by_cases a2 : c = 95
      · rw [if_pos a2, if_neg (by decide), if_pos (Or.inl (Or.inr (Or.inr a2)))]
      · rw [if_neg a2, if_pos trivial]
        by_cases a3 : c < 48
        · rw [if_pos a3, if_neg]
          rintro ((q | q | q) | q)
          · exact b2 (Or.inl q)
          · exact b2 (Or.inr q)
          · exact a2 q
          · exact (e48 c).mpr q.1 a3
        · rw [if_neg a3]
          by_cases a4 : c ≤ 57
          · rw [if_pos a4, if_pos (Or.inr ⟨(e48 c).mp a3, a4⟩)]
          · rw [if_neg a4, if_neg]
            rintro ((q | q | q) | q)
            · exact b2 (Or.inl q)
            · exact b2 (Or.inr q)
            · exact a2 q
            · exact a4 q.2
theorem wordC_run {ln : Nat → Nat} {N M n : Nat} {x : Nat → Int32} : ∀ (m p : Nat) (σ : zSt), srcC x n ln σ → zI σ 1 2 = nI p → p ≤ n → n - p < m → fX7_comeWord_b5 ln N M m σ = fX7_comeWord_b101 ln N M (zsI (zsL σ 1 5 (lxWd x (lxRun lxLD x (n - p) p - p) p (zL σ 1 5))) 1 2 (nI (lxRun lxLD x (n - p) p))) := by
  intro m
  induction m with
  | zero => intro p σ h hp hpn hm; omega
  | succ m ih =>
    intro p σ h hp hpn hm
    obtain ⟨hs, hn, hc, hx⟩ := h
    rw [fX7_comeWord_b5, hs, hp]
    by_cases e : n ≤ p
    · have e0 : n - p = 0 := by omega
      rw [if_pos ((nI_le' (by omega) (by omega)).mpr e), e0, lxRun, Nat.sub_self, lxWd, zsL_self, ← hp, zsI_self]
    · have hin := ix_ok (n := p) (k := ln 15) (by omega) (by omega)
      have e1 : n - p = (n - (p + 1)) + 1 := by omega
      rw [if_neg (fun q => e ((nI_le' (by omega) (by omega)).mp q)), if_neg hin, nI_clamp (by omega), hx p (by omega), bnd_e, bnd_e, wordC_step, e1, lxRun]
      by_cases c1 : lxLD (x p) = true
      · obtain ⟨r1, r2⟩ := lxRun_le lxLD x (n - (p + 1)) (p + 1)
        rw [if_pos c1, if_pos c1]
        unfold fX7_comeWord_b74
        rw [bnd_e, bnd_e, zI_L, hp, nI_1, ih (p + 1) _ (srcC_I (srcC_L ⟨hs, hn, hc, hx⟩ 1 5 _) 1 2 _ (by decide)) (zI_s _ _ _ _) (by omega) (by omega)]
        have e2 : lxRun lxLD x (n - (p + 1)) (p + 1) - p = (lxRun lxLD x (n - (p + 1)) (p + 1) - (p + 1)) + 1 := by omega
        rw [e2, lxWd, zL_I, zL_s]
        simp only [zsIL, zsI_I, zsL_L]
      · rw [if_neg c1, if_neg c1, Nat.sub_self, lxWd, zsL_self, ← hp, zsI_self]
/-- what comeWord answers -/
def lxKwC (t : Int64) : Int32 :=
  if (6909556 : Int64) = t then 42 else if (26982 : Int64) = t then 43 else if (1701606245 : Int64) = t then 44 else if (512852847717 : Int64) = t then 45 else if (125780071117422 : Int64) = t then 46 else if (482955849332 : Int64) = t then 47 else if (1919246692 : Int64) = t then 48 else 40
theorem kwC1 {ln : Nat → Nat} {N M m k : Nat} {σ : zSt} (hk : k < 7) : fX7_comeWord_b119 ln N M (m + 1) (nI k) σ = if zK_KEYWORDS k = zL σ 1 5 then some ((42 : Int32) + nI k, σ) else fX7_comeWord_b119 ln N M m (nI (k + 1)) σ := by
  rw [fX7_comeWord_b119, if_neg (show ¬ (7 : Int32) ≤ nI k from nI_ge (a := k) (b := 7) hk (by omega)), if_neg (ix_ok hk (by omega)), nI_clamp (by omega)]
  by_cases e : zK_KEYWORDS k = zL σ 1 5
  · rw [if_pos ((lg_cmp_eq _ _).mpr e), if_pos e]
  · rw [if_neg (fun z => e ((lg_cmp_eq _ _).mp z)), if_neg e, bnd_e, nI_1]
theorem kwC {ln : Nat → Nat} {N M m : Nat} {σ : zSt} : fX7_comeWord_b119 ln N M (m + 8) 0 σ = some (lxKwC (zL σ 1 5), σ) := by
  have hz : (0 : Int32) = nI 0 := rfl
  rw [hz, kwC1 (by omega), kwC1 (by omega), kwC1 (by omega), kwC1 (by omega), kwC1 (by omega), kwC1 (by omega), kwC1 (by omega)]
  have hend : fX7_comeWord_b119 ln N M (m + 1) (nI (0 + 1 + 1 + 1 + 1 + 1 + 1 + 1)) σ = some (40, σ) := by
    rw [fX7_comeWord_b119, if_pos (by decide)]
  rw [hend]
  unfold lxKwC
  have hk : zK_KEYWORDS 0 = 6909556 ∧ zK_KEYWORDS (0 + 1) = 26982 ∧ zK_KEYWORDS (0 + 1 + 1) = 1701606245 ∧ zK_KEYWORDS (0 + 1 + 1 + 1) = 512852847717 ∧ zK_KEYWORDS (0 + 1 + 1 + 1 + 1) = 125780071117422 ∧ zK_KEYWORDS (0 + 1 + 1 + 1 + 1 + 1) = 482955849332 ∧ zK_KEYWORDS (0 + 1 + 1 + 1 + 1 + 1 + 1) = 1919246692 := ⟨rfl, rfl, rfl, rfl, rfl, rfl, rfl⟩
  obtain ⟨k0, k1, k2, k3, k4, k5, k6⟩ := hk
  rw [k0, k1, k2, k3, k4, k5, k6]
  repeat' split
  all_goals rfl
theorem wordC {ln : Nat → Nat} {N M n p : Nat} {x : Nat → Int32} {σ : zSt} (h : srcC x n ln σ) (h2 : zI σ 1 2 = nI p) (h4 : zI σ 1 4 = nI p) (hp : p ≤ n) (hN : n + 20 ≤ N) :
    fX7_comeWord ln N M σ = some (if 8 < lxRun lxLD x (n - p) p - p then -1 else lxKwC (lxWd x (lxRun lxLD x (n - p) p - p) p 0), zsL (zsI σ 1 2 (nI (lxRun lxLD x (n - p) p))) 1 5 (lxWd x (lxRun lxLD x (n - p) p - p) p 0)) := by
  obtain ⟨r1, r2⟩ := lxRun_le lxLD x (n - p) p
  have hn := h.2.1
  have hc := h.2.2.1
  unfold fX7_comeWord
  rw [bnd_e, wordC_run N p _ (srcC_L h 1 5 0) (by rw [zI_L]; exact h2) hp (by omega), zL_s]
  generalize lxRun lxLD x (n - p) p = q at r1 r2 ⊢
  generalize lxWd x (q - p) p 0 = t
  simp only [zsIL, zsL_L]
  unfold fX7_comeWord_b101
  have a2 : zI (zsL (zsI σ 1 2 (nI q)) 1 5 t) 1 2 = nI q := by rw [zI_L]; exact zI_s _ _ _ _
  have a4 : zI (zsL (zsI σ 1 2 (nI q)) 1 5 t) 1 4 = nI p := by rw [zI_L, zI_I, if_neg (by decide)]; exact h4
  rw [a2, a4, pk_sub r1]
  obtain ⟨N', rfl⟩ : ∃ N', N = N' + 8 := ⟨N - 8, by omega⟩
  by_cases e : 8 < q - p
  · rw [if_neg (show ¬ nI (q - p) ≤ (8 : Int32) from nI_ge (a := 8) e (by omega)), if_pos e]
  · rw [if_pos (show nI (q - p) ≤ (8 : Int32) from nI_le (b := 8) (by omega) (by omega)), if_neg e, bnd_e, kwC, zL_s]
theorem lxRun_all (P : Int32 → Bool) (x : Nat → Int32) : ∀ f p j, p ≤ j → j < lxRun P x f p → P (x j) = true := by
  intro f
  induction f with
  | zero => intro p j h1 h2; rw [lxRun] at h2; omega
  | succ f ih =>
    intro p j h1 h2
    rw [lxRun] at h2
    by_cases h : P (x p) = true
    · rw [if_pos h] at h2
      by_cases e : j = p
      · rw [e]; exact h
      · exact ih (p + 1) j (by omega) h2
    · rw [if_neg h] at h2
      omega
def lxNuC (x : Nat → Int32) : Nat → Nat → Int64 → Int64
  | 0, _, a => a
  | f + 1, p, a => lxNuC x f (p + 1) ((a * (10 : Int64)) + ((x p - (48 : Int32)).toInt64))
theorem lxD_iff (c : Int32) : lxD c = true ↔ ¬ c < 48 ∧ ¬ (57 : Int32) < c := by
  unfold lxD
  simp only [decide_eq_true_eq, Int32.lt_iff_toInt_lt, Int32.le_iff_toInt_le]
  omega
theorem numberC_run {ln : Nat → Nat} {N M n p : Nat} {x : Nat → Int32} : ∀ (m e : Nat) (σ : zSt), srcC x n ln σ → zI σ 1 2 = nI e → zI σ 1 4 = nI p → p ≤ e → e ≤ n → n - e < m → fX7_comeNumber_b5 ln N M m σ = fX7_comeNumber_b97 ln N M (zsL (zsI σ 1 2 (nI (lxRun lxD x (n - e) e))) 1 6 (lxNuC x (min (lxRun lxD x (n - e) e - p) 10 - min (e - p) 10) e (zL σ 1 6))) := by
  intro m
  induction m with
  | zero => intro e σ h h2 h4 hpe hen hm; omega
  | succ m ih =>
    intro e σ h h2 h4 hpe hen hm
    obtain ⟨hs, hn, hc, hx⟩ := h
    rw [fX7_comeNumber_b5, hs, h2]
    by_cases e0 : n ≤ e
    · have e1 : n - e = 0 := by omega
      rw [if_pos ((nI_le' (by omega) (by omega)).mpr e0), e1, lxRun, Nat.sub_self, lxNuC, ← h2, zsI_self, zsL_self]
    · have hin := ix_ok (n := e) (k := ln 15) (by omega) (by omega)
      have hin2 := hin
      rw [nI_clamp (by omega)] at hin2
      have e1 : n - e = (n - (e + 1)) + 1 := by omega
      rw [if_neg (fun q => e0 ((nI_le' (by omega) (by omega)).mp q)), if_neg hin, nI_clamp (by omega), hx e (by omega), e1, lxRun]
      by_cases d : lxD (x e) = true
      · obtain ⟨d1, d2⟩ := (lxD_iff _).mp d
        obtain ⟨r1, r2⟩ := lxRun_le lxD x (n - (e + 1)) (e + 1)
        rw [if_neg d1, if_neg hin2, if_neg d2, if_pos d, h4, pk_sub hpe]
        unfold fX7_comeNumber_b84
        by_cases g : 10 ≤ e - p
        · rw [if_pos (show (10 : Int32) ≤ nI (e - p) from nI_le (a := 10) g (by omega)), bnd_e, h2, nI_1, ih (e + 1) _ (srcC_I ⟨hs, hn, hc, hx⟩ 1 2 _ (by decide)) (zI_s _ _ _ _) (by rw [zI_I, if_neg (by decide)]; exact h4) (by omega) (by omega) (by omega)]
          have e3 : min (lxRun lxD x (n - (e + 1)) (e + 1) - p) 10 - min (e + 1 - p) 10 = 0 := by omega
          have e4 : min (lxRun lxD x (n - (e + 1)) (e + 1) - p) 10 - min (e - p) 10 = 0 := by omega
          rw [e3, e4, lxNuC, lxNuC, zsI_I, zL_I]
        · rw [if_neg (show ¬ (10 : Int32) ≤ nI (e - p) from nI_ge (a := e - p) (b := 10) (by omega) (by omega)), if_neg hin2, bnd_e, bnd_e, zI_L, h2, nI_1, ih (e + 1) _ (srcC_I (srcC_L ⟨hs, hn, hc, hx⟩ 1 6 _) 1 2 _ (by decide)) (zI_s _ _ _ _) (by rw [zI_I, if_neg (by decide), zI_L]; exact h4) (by omega) (by omega) (by omega)]
          have e4 : min (lxRun lxD x (n - (e + 1)) (e + 1) - p) 10 - min (e - p) 10 = (min (lxRun lxD x (n - (e + 1)) (e + 1) - p) 10 - min (e + 1 - p) 10) + 1 := by omega
          rw [e4, lxNuC, zL_I, zL_s]
          simp only [zsIL, zsI_I, zsL_L]
      · have hno : ¬ (¬ x e < 48 ∧ ¬ (57 : Int32) < x e) := fun q => d ((lxD_iff _).mpr q)
        have hfin : fX7_comeNumber_b97 ln N M σ = fX7_comeNumber_b97 ln N M (zsL (zsI σ 1 2 (nI e)) 1 6 (lxNuC x (min (e - p) 10 - min (e - p) 10) e (zL σ 1 6))) := by
          rw [Nat.sub_self, lxNuC, ← h2, zsI_self, zsL_self]
        rw [if_neg d]
        by_cases d1 : x e < 48
        · rw [if_pos d1, hfin]
        · rw [if_neg d1, if_neg hin2]
          by_cases d2 : (57 : Int32) < x e
          · rw [if_pos d2, hfin]
          · exact absurd ⟨d1, d2⟩ hno
theorem numberC {ln : Nat → Nat} {N M n p : Nat} {x : Nat → Int32} {σ : zSt} (h : srcC x n ln σ) (h2 : zI σ 1 2 = nI p) (h4 : zI σ 1 4 = nI p) (hp : p ≤ n) (hN : n + 20 ≤ N) :
    fX7_comeNumber ln N M σ = some (if 10 < lxRun lxD x (n - p) p - p then -1 else 41, zsL (zsI σ 1 2 (nI (lxRun lxD x (n - p) p))) 1 6 (lxNuC x (min (lxRun lxD x (n - p) p - p) 10) p 0)) := by
  obtain ⟨r1, r2⟩ := lxRun_le lxD x (n - p) p
  have hn := h.2.1
  have hc := h.2.2.1
  unfold fX7_comeNumber
  rw [bnd_e, numberC_run N p _ (srcC_L h 1 6 0) (by rw [zI_L]; exact h2) (by rw [zI_L]; exact h4) (Nat.le_refl _) hp (by omega), zL_s, Nat.sub_self, show min 0 10 = 0 from rfl, Nat.sub_zero]
  generalize lxRun lxD x (n - p) p = q at r1 r2 ⊢
  generalize lxNuC x (min (q - p) 10) p 0 = t
  simp only [zsIL, zsL_L]
  unfold fX7_comeNumber_b97
  have a2 : zI (zsL (zsI σ 1 2 (nI q)) 1 6 t) 1 2 = nI q := by rw [zI_L]; exact zI_s _ _ _ _
  have a4 : zI (zsL (zsI σ 1 2 (nI q)) 1 6 t) 1 4 = nI p := by rw [zI_L, zI_I, if_neg (by decide)]; exact h4
  rw [a2, a4, pk_sub r1]
  by_cases e : 10 < q - p
  · rw [if_neg (show ¬ nI (q - p) ≤ (10 : Int32) from nI_ge (a := 10) e (by omega)), if_pos e]
  · rw [if_pos (show nI (q - p) ≤ (10 : Int32) from nI_le (b := 10) (by omega) (by omega)), if_neg e]
theorem digit_wide (c : Int32) (h : lxD c = true) : (c - 48).toInt64 = c.toInt64 - 48 := by
  have fin : ∀ k : Nat, k < 58 → 48 ≤ k → (nI k - 48).toInt64 = (nI k).toInt64 - 48 := by decide +kernel
  unfold lxD at h
  simp only [decide_eq_true_eq] at h
  obtain ⟨h1, h2⟩ := h
  have h0 : ¬ c < 0 := fun q => by
    rw [Int32.lt_iff_toInt_lt] at q
    rw [Int32.le_iff_toInt_le] at h1
    have e1 : (48 : Int32).toInt = 48 := rfl
    have e2 : (0 : Int32).toInt = 0 := rfl
    omega
  obtain ⟨j, hj, rfl⟩ := nI_of h0
  have a1 : j ≤ 57 := (nI_le' (a := j) (b := 57) hj (by omega)).mp h2
  have a2 : 48 ≤ j := (nI_le' (a := 48) (b := j) (by omega) hj).mp h1
  exact fin j (by omega) a2
theorem lxNu_same (x : Nat → Int32) : ∀ f p a, (∀ j, p ≤ j → j < p + f → lxD (x j) = true) → lxNuC x f p a = lxNu x f p a := by
  intro f
  induction f with
  | zero => intro p a h; rfl
  | succ f ih =>
    intro p a h
    rw [lxNuC, lxNu, ih (p + 1) _ (fun j h1 h2 => h j (by omega) (by omega)), digit_wide _ (h p (Nat.le_refl _) (by omega))]
    congr 1
    rw [Int64.mul_comm, Int64.sub_eq_add_neg, Int64.sub_eq_add_neg, Int64.add_assoc]
