/-! PURE: the reference's reader of tokens -/
theorem zsI_I (σ : zSt) (o k : Nat) (a b : Int32) : zsI (zsI σ o k a) o k b = zsI σ o k b := by
  unfold zsI zup
  congr 1
  funext i j
  simp only
  by_cases h : i = o ∧ j = k
  · rw [if_pos h, if_pos h]
  · rw [if_neg h, if_neg h, if_neg h]
theorem zsL_L (σ : zSt) (o k : Nat) (a b : Int64) : zsL (zsL σ o k a) o k b = zsL σ o k b := by
  unfold zsL zup
  congr 2
  funext i j
  simp only
  by_cases h : i = o ∧ j = k
  · rw [if_pos h, if_pos h]
  · rw [if_neg h, if_neg h, if_neg h]
theorem zsI_self (σ : zSt) (o k : Nat) : zsI σ o k (zI σ o k) = σ := by
  unfold zsI zup zI
  have h : (fun i j => if i = o ∧ j = k then σ.1 o k else σ.1 i j) = σ.1 := by
    funext i j
    by_cases h : i = o ∧ j = k
    · rw [if_pos h, h.1, h.2]
    · rw [if_neg h]
  rw [h]
theorem zsI_swap (σ : zSt) (o k o2 k2 : Nat) (a b : Int32) (h : ¬ (o = o2 ∧ k = k2)) : zsI (zsI σ o k a) o2 k2 b = zsI (zsI σ o2 k2 b) o k a := by
  unfold zsI zup
  congr 1
  funext i j
  simp only
  by_cases h1 : i = o ∧ j = k
  · by_cases h2 : i = o2 ∧ j = k2
    · exact absurd ⟨h1.1.symm.trans h2.1, h1.2.symm.trans h2.2⟩ h
    · rw [if_neg h2, if_pos h1, if_pos h1]
  · by_cases h2 : i = o2 ∧ j = k2
    · rw [if_pos h2, if_neg h1, if_pos h2]
    · rw [if_neg h2, if_neg h1, if_neg h1, if_neg h2]
theorem zsIL (σ : zSt) (o k o2 k2 : Nat) (a : Int64) (b : Int32) : zsI (zsL σ o k a) o2 k2 b = zsL (zsI σ o2 k2 b) o k a := rfl
def lxL (c : Int32) : Bool := decide ((97 ≤ c ∧ c ≤ 122) ∨ (65 ≤ c ∧ c ≤ 90) ∨ c = 95)
def lxD (c : Int32) : Bool := decide (48 ≤ c ∧ c ≤ 57)
def lxB (c : Int32) : Bool := decide (c = 32 ∨ c = 10)
/-- from p on, f signs at most: the place behind those with P -/
def lxRun (P : Int32 → Bool) (x : Nat → Int32) : Nat → Nat → Nat
  | 0, p => p
  | f + 1, p => if P (x p) = true then lxRun P x f (p + 1) else p
theorem lxRun_le (P : Int32 → Bool) (x : Nat → Int32) : ∀ f p, p ≤ lxRun P x f p ∧ lxRun P x f p ≤ p + f := by
  intro f
  induction f with
  | zero => intro p; exact ⟨Nat.le_refl _, Nat.le_refl _⟩
  | succ f ih =>
    intro p
    unfold lxRun
    by_cases h : P (x p) = true
    · rw [if_pos h]
      have := ih (p + 1)
      omega
    · rw [if_neg h]
      omega
def srcR (x : Nat → Int32) (n : Nat) (τ : zSt) : Prop := zI τ 0 16 = nI n ∧ n ≤ 4096 ∧ ∀ j, j < n → zA τ 6 j = x j
theorem srcR_I {x : Nat → Int32} {n : Nat} {τ : zSt} (h : srcR x n τ) (k : Nat) (v : Int32) (hk : k ≠ 16) : srcR x n (zsI τ 0 k v) := by
  refine ⟨?_, h.2.1, h.2.2⟩
  rw [zI_I, if_neg (by rintro ⟨-, q⟩; exact hk q.symm)]
  exact h.1
theorem srcR_L {x : Nat → Int32} {n : Nat} {τ : zSt} (h : srcR x n τ) (k : Nat) (v : Int64) : srcR x n (zsL τ 0 k v) := h
theorem isLetterR {N : Nat} {τ : zSt} (c : Int32) : fX12_isLetter N c τ = some (if lxL c = true then (1 : Int32) else 0, τ) := by
  unfold fX12_isLetter fX12_isLetter_b12 fX12_isLetter_b24 fX12_isLetter_b30 lxL
  simp only [decide_eq_true_eq, Int32.lt_iff_toInt_lt, Int32.le_iff_toInt_le, ← Int32.toInt_inj, show (97 : Int32).toInt = 97 from rfl, show (122 : Int32).toInt = 122 from rfl, show (65 : Int32).toInt = 65 from rfl, show (90 : Int32).toInt = 90 from rfl, show (95 : Int32).toInt = 95 from rfl]
  repeat' split
  all_goals first | rfl | (exfalso; omega)
theorem isDigitR {N : Nat} {τ : zSt} (c : Int32) : fX12_isDigit N c τ = some (if lxD c = true then (1 : Int32) else 0, τ) := by
  unfold fX12_isDigit lxD
  simp only [decide_eq_true_eq, Int32.lt_iff_toInt_lt, Int32.le_iff_toInt_le, show (48 : Int32).toInt = 48 from rfl, show (57 : Int32).toInt = 57 from rfl]
  repeat' split
  all_goals first | rfl | (exfalso; omega)
theorem nI_le' {a b : Nat} (ha : a < 2 ^ 31) (hb : b < 2 ^ 31) : (nI a ≤ nI b) ↔ a ≤ b := nI_leI ha hb
/-- blanks are passed -/
theorem nextR_skip {N n : Nat} {x : Nat → Int32} : ∀ (m p : Nat) (τ : zSt), srcR x n τ → zI τ 0 17 = nI p → p ≤ n → n - p < m → fX12_next_b0 N m τ = fX12_next_b52 N (zsI τ 0 17 (nI (lxRun lxB x (n - p) p))) := by
  intro m
  induction m with
  | zero => intro p τ h hp hpn hm; omega
  | succ m ih =>
    intro p τ h hp hpn hm
    have hn := h.2.1
    rw [fX12_next_b0, h.1, hp]
    by_cases e : n ≤ p
    · have e0 : n - p = 0 := by omega
      rw [if_pos ((nI_le' (by omega) (by omega)).mpr e), e0, lxRun, ← hp, zsI_self]
    · have hin := ix_ok (n := p) (k := 4096) (by omega) (by omega)
      have e1 : n - p = (n - (p + 1)) + 1 := by omega
      have hstep : fX12_next_b39 N (fX12_next_b0 N m) τ = fX12_next_b52 N (zsI τ 0 17 (nI (lxRun lxB x (n - (p + 1)) (p + 1)))) := by
        unfold fX12_next_b39
        rw [bnd_e, hp, nI_1, ih (p + 1) (zsI τ 0 17 (nI (p + 1))) (srcR_I h 17 _ (by decide)) (by rw [zI_I, if_pos ⟨rfl, rfl⟩]) (by omega) (by omega), zsI_I]
      rw [if_neg (fun q => e ((nI_le' (by omega) (by omega)).mp q)), if_neg hin, nI_clamp (by omega), h.2.2 p (by omega), e1, lxRun]
      by_cases c1 : x p = 32
      · rw [if_pos c1, if_pos (by simp [lxB, c1]), hstep]
      · have hin2 := hin
        rw [nI_clamp (by omega)] at hin2
        rw [if_neg c1, if_neg hin2]
        by_cases c2 : x p = 10
        · rw [if_pos c2, if_pos (by simp [lxB, c2]), hstep]
        · rw [if_neg c2, if_neg (by simp [lxB, c1, c2]), ← hp, zsI_self]
theorem zsL_self (σ : zSt) (o k : Nat) : zsL σ o k (zL σ o k) = σ := by
  unfold zsL zup zL
  have h : (fun i j => if i = o ∧ j = k then σ.2.1 o k else σ.2.1 i j) = σ.2.1 := by
    funext i j
    by_cases h : i = o ∧ j = k
    · rw [if_pos h, h.1, h.2]
    · rw [if_neg h]
  rw [h]
def lxLD (c : Int32) : Bool := lxL c || lxD c
theorem nameR_run {N n : Nat} {x : Nat → Int32} : ∀ (m p : Nat) (τ : zSt), srcR x n τ → zI τ 0 17 = nI p → p ≤ n → n - p < m → fX12_name_b0 N m τ = fX12_name_b54 N (zsI τ 0 17 (nI (lxRun lxLD x (n - p) p))) := by
  intro m
  induction m with
  | zero => intro p τ h hp hpn hm; omega
  | succ m ih =>
    intro p τ h hp hpn hm
    have hn := h.2.1
    rw [fX12_name_b0, h.1, hp]
    by_cases e : n ≤ p
    · have e0 : n - p = 0 := by omega
      rw [if_pos ((nI_le' (by omega) (by omega)).mpr e), e0, lxRun, ← hp, zsI_self]
    · have hin := ix_ok (n := p) (k := 4096) (by omega) (by omega)
      have e1 : n - p = (n - (p + 1)) + 1 := by omega
      have hstep : fX12_name_b41 N (fX12_name_b0 N m) τ = fX12_name_b54 N (zsI τ 0 17 (nI (lxRun lxLD x (n - (p + 1)) (p + 1)))) := by
        unfold fX12_name_b41
        rw [bnd_e, hp, nI_1, ih (p + 1) (zsI τ 0 17 (nI (p + 1))) (srcR_I h 17 _ (by decide)) (by rw [zI_I, if_pos ⟨rfl, rfl⟩]) (by omega) (by omega), zsI_I]
      rw [if_neg (fun q => e ((nI_le' (by omega) (by omega)).mp q)), if_neg hin, nI_clamp (by omega), h.2.2 p (by omega), e1, lxRun, isLetterR, obd_s]
      by_cases c1 : lxL (x p) = true
      · rw [if_pos c1, if_neg (by decide), if_pos (by simp [lxLD, c1]), hstep]
      · rw [if_neg c1, if_pos rfl, hp, if_neg hin, nI_clamp (by omega), h.2.2 p (by omega), isDigitR, obd_s]
        by_cases c2 : lxD (x p) = true
        · rw [if_pos c2, if_neg (by decide), if_pos (by simp [lxLD, c2]), hstep]
        · rw [if_neg c2, if_pos rfl, if_neg (by simp [lxLD, c1, c2]), ← hp, zsI_self]
/-- a word's letters, packed -/
def lxWd (x : Nat → Int32) : Nat → Nat → Int64 → Int64
  | 0, _, a => a
  | f + 1, p, a => lxWd x f (p + 1) ((a <<< ((8 : Int32).toInt64 &&& 63)) ||| ((x p).toInt64))
theorem nameR_fold {N n q : Nat} {x : Nat → Int32} (hq : q ≤ n) : ∀ (m k : Nat) (τ : zSt), srcR x n τ → zI τ 0 17 = nI q → zI τ 0 19 = 1 → k ≤ q → q - k < m → fX12_name_b82 N m (nI k) τ = fX12_name_b123 N (zsL τ 0 20 (lxWd x (q - k) k (zL τ 0 20))) := by
  intro m
  induction m with
  | zero => intro k τ h h1 h2 hk hm; omega
  | succ m ih =>
    intro k τ h h1 h2 hk hm
    have hn := h.2.1
    rw [fX12_name_b82, h1]
    by_cases e : q ≤ k
    · have e0 : q - k = 0 := by omega
      rw [if_pos ((nI_le' (by omega) (by omega)).mpr e), e0, lxWd, zsL_self]
    · have e1 : q - k = (q - (k + 1)) + 1 := by omega
      rw [if_neg (fun z => e ((nI_le' (by omega) (by omega)).mp z)), h2, if_pos rfl, if_neg (ix_ok (by omega) (by omega)), nI_clamp (by omega), h.2.2 k (by omega), bnd_e, bnd_e, nI_1, ih (k + 1) _ (srcR_L h 20 _) (by rw [zI_L]; exact h1) (by rw [zI_L]; exact h2) (by omega) (by omega), zsL_L, zL_L, if_pos ⟨rfl, rfl⟩, e1, lxWd]
/-- a keyword, or a NAME -/
def lxKw (t : Int64) : Int32 × Int64 :=
  if (6909556 : Int64) = t then (3, 0) else if (26982 : Int64) = t then (3, 1) else if (1701606245 : Int64) = t then (3, 2) else if (512852847717 : Int64) = t then (3, 3) else if (125780071117422 : Int64) = t then (3, 4) else if (482955849332 : Int64) = t then (3, 5) else if (1919246692 : Int64) = t then (3, 6) else (1, t)
theorem wordOfR {N : Nat} {τ : zSt} (k : Nat) (hk : k < 7) : fX12_wordOf N (nI k) τ = some (([6909556, 26982, 1701606245, 512852847717, 125780071117422, 482955849332, 1919246692] : List Int64).getD k 0, τ) := by
  rcases (show k = 0 ∨ k = 1 ∨ k = 2 ∨ k = 3 ∨ k = 4 ∨ k = 5 ∨ k = 6 by omega) with rfl | rfl | rfl | rfl | rfl | rfl | rfl <;> rfl
theorem nameR_kw1 {N m k : Nat} {τ : zSt} (hk : k < 7) (h2 : zI τ 0 19 = 1) : fX12_name_b125 N (m + 2) (nI k) τ = if ([6909556, 26982, 1701606245, 512852847717, 125780071117422, 482955849332, 1919246692] : List Int64).getD k 0 = zL τ 0 20 then some ((), zsL (zsI τ 0 19 3) 0 20 (nI k).toInt64) else fX12_name_b125 N (m + 1) (nI (k + 1)) τ := by
  rw [fX12_name_b125, if_neg (show ¬ (7 : Int32) ≤ nI k from nI_ge (a := k) (b := 7) hk (by omega)), h2, if_pos rfl, wordOfR k hk, obd_s]
  by_cases e : ([6909556, 26982, 1701606245, 512852847717, 125780071117422, 482955849332, 1919246692] : List Int64).getD k 0 = zL τ 0 20
  · rw [if_pos ((lg_cmp_eq _ _).mpr e), if_pos e, bnd_e, bnd_e, fX12_name_b162, bnd_e, fX12_name_b125, nI_1]
    by_cases e7 : 7 ≤ k + 1
    · rw [if_pos (show (7 : Int32) ≤ nI (k + 1) from nI_le (a := 7) e7 (by omega))]
    · rw [if_neg (show ¬ (7 : Int32) ≤ nI (k + 1) from nI_ge (a := k + 1) (b := 7) (by omega) (by omega)), show zI (zsL (zsI τ 0 19 3) 0 20 (nI k).toInt64) 0 19 = 3 from zI_s τ 0 19 3, if_neg (by decide)]
  · rw [if_neg (fun z => e ((lg_cmp_eq _ _).mp z)), if_neg e, fX12_name_b162, bnd_e, nI_1]
theorem nameR_kw {N m : Nat} {τ : zSt} (h2 : zI τ 0 19 = 1) : fX12_name_b125 N (m + 9) 0 τ = some ((), zsL (zsI τ 0 19 (lxKw (zL τ 0 20)).1) 0 20 (lxKw (zL τ 0 20)).2) := by
  have hz : (0 : Int32) = nI 0 := rfl
  rw [hz, nameR_kw1 (by omega) h2, nameR_kw1 (by omega) h2, nameR_kw1 (by omega) h2, nameR_kw1 (by omega) h2, nameR_kw1 (by omega) h2, nameR_kw1 (by omega) h2, nameR_kw1 (by omega) h2]
  have hend : fX12_name_b125 N (m + 1 + 1) (nI (0 + 1 + 1 + 1 + 1 + 1 + 1 + 1)) τ = some ((), τ) := by
    rw [fX12_name_b125, if_pos (by decide)]
  rw [hend]
  unfold lxKw
  simp only [List.getD_cons_zero, List.getD_cons_succ]
  repeat' split
  all_goals first | rfl | (rw [show zsI τ 0 19 1 = τ by rw [← h2, zsI_self], zsL_self])
/-- the state behind next(): at, token, kind, told -/
def tokS (τ : zSt) (e p : Nat) (k : Int32) (t : Int64) : zSt := zsL (zsI (zsI (zsI τ 0 18 (nI p)) 0 17 (nI e)) 0 19 k) 0 20 t
/-- name(): from p on, where a letter stands -/
def lxName (x : Nat → Int32) (n p : Nat) : Nat × Int32 × Int64 := if 8 < lxRun lxLD x (n - p) p - p then (lxRun lxLD x (n - p) p, 5, 0) else (lxRun lxLD x (n - p) p, (lxKw (lxWd x (lxRun lxLD x (n - p) p - p) p 0)).1, (lxKw (lxWd x (lxRun lxLD x (n - p) p - p) p 0)).2)
theorem nameR {N n p : Nat} {x : Nat → Int32} {τ : zSt} (h : srcR x n τ) (h17 : zI τ 0 17 = nI p) (h18 : zI τ 0 18 = nI p) (h20 : zL τ 0 20 = 0) (hp : p ≤ n) (hN : n + 20 ≤ N) :
    fX12_name N τ = some ((), zsL (zsI (zsI τ 0 17 (nI (lxName x n p).1)) 0 19 (lxName x n p).2.1) 0 20 (lxName x n p).2.2) := by
  have hn := h.2.1
  obtain ⟨r1, r2⟩ := lxRun_le lxLD x (n - p) p
  unfold fX12_name lxName
  rw [nameR_run N p τ h h17 hp (by omega)]
  generalize lxRun lxLD x (n - p) p = q at r1 r2 ⊢
  have e1 : nI q - nI p = nI (q - p) := pk_sub r1
  obtain ⟨N', rfl⟩ : ∃ N', N = N' + 9 := ⟨N - 9, by omega⟩
  have hs : srcR x n (zsI τ 0 17 (nI q)) := srcR_I h 17 _ (by decide)
  unfold fX12_name_b54
  have a17 : zI (zsI τ 0 17 (nI q)) 0 17 = nI q := zI_s τ 0 17 _
  have a18 : zI (zsI τ 0 17 (nI q)) 0 18 = nI p := by rw [zI_I, if_neg (by decide)]; exact h18
  rw [a17, a18, e1]
  by_cases e : 8 < q - p
  · rw [if_pos (show (8 : Int32) < nI (q - p) from nI_lt (a := 8) e (by omega)), if_pos e]
    unfold fX12_name_b74
    rw [bnd_e, bnd_e, fX12_name_b82]
    have k5 : zI (zsI (zsI τ 0 17 (nI q)) 0 19 5) 0 19 = 5 := zI_s _ 0 19 5
    have h123 : fX12_name_b123 (N' + 9) (zsI (zsI τ 0 17 (nI q)) 0 19 5) = some ((), zsI (zsI τ 0 17 (nI q)) 0 19 5) := by
      unfold fX12_name_b123
      rw [bnd_e, fX12_name_b125, if_neg (by decide), k5, if_neg (by decide)]
    have hz : zsL (zsI (zsI τ 0 17 (nI q)) 0 19 5) 0 20 0 = zsI (zsI τ 0 17 (nI q)) 0 19 5 := by
      have := zsL_self (zsI (zsI τ 0 17 (nI q)) 0 19 5) 0 20
      rw [zL_I, zL_I, h20] at this
      exact this
    rw [k5, h123, hz]
    split
    · rfl
    · rw [if_neg (by decide)]
  · rw [if_neg (show ¬ (8 : Int32) < nI (q - p) from nI_nlt (a := 8) (b := q - p) (by omega) (by omega)), if_neg e]
    unfold fX12_name_b74
    have b18 : zI (zsI (zsI τ 0 17 (nI q)) 0 19 1) 0 18 = nI p := by rw [zI_I, if_neg (by decide)]; exact a18
    have b17 : zI (zsI (zsI τ 0 17 (nI q)) 0 19 1) 0 17 = nI q := by rw [zI_I, if_neg (by decide)]; exact a17
    rw [bnd_e, bnd_e, b18]
    have k1 : zI (zsI (zsI τ 0 17 (nI q)) 0 19 1) 0 19 = 1 := zI_s _ 0 19 1
    rw [nameR_fold (n := n) (q := q) (by omega) (N' + 9) p _ (srcR_I hs 19 _ (by decide)) b17 k1 (by omega) (by omega)]
    unfold fX12_name_b123
    have t0 : zL (zsI (zsI τ 0 17 (nI q)) 0 19 1) 0 20 = 0 := h20
    rw [bnd_e, nameR_kw (by rw [zI_L]; exact k1), zL_s, t0, zsIL, zsL_L, zsI_I]
theorem numberR_run {N n : Nat} {x : Nat → Int32} : ∀ (m p : Nat) (τ : zSt), srcR x n τ → zI τ 0 17 = nI p → p ≤ n → n - p < m → fX12_number_b0 N m τ = fX12_number_b39 N (zsI τ 0 17 (nI (lxRun lxD x (n - p) p))) := by
  intro m
  induction m with
  | zero => intro p τ h hp hpn hm; omega
  | succ m ih =>
    intro p τ h hp hpn hm
    have hn := h.2.1
    rw [fX12_number_b0, h.1, hp]
    by_cases e : n ≤ p
    · have e0 : n - p = 0 := by omega
      rw [if_pos ((nI_le' (by omega) (by omega)).mpr e), e0, lxRun, ← hp, zsI_self]
    · have hin := ix_ok (n := p) (k := 4096) (by omega) (by omega)
      have e1 : n - p = (n - (p + 1)) + 1 := by omega
      have hstep : fX12_number_b0 N m (zsI τ 0 17 (nI (p + 1))) = fX12_number_b39 N (zsI τ 0 17 (nI (lxRun lxD x (n - (p + 1)) (p + 1)))) := by
        rw [ih (p + 1) (zsI τ 0 17 (nI (p + 1))) (srcR_I h 17 _ (by decide)) (zI_s _ _ _ _) (by omega) (by omega), zsI_I]
      rw [if_neg (fun q => e ((nI_le' (by omega) (by omega)).mp q)), if_neg hin, nI_clamp (by omega), h.2.2 p (by omega), e1, lxRun, isDigitR, obd_s]
      by_cases c1 : lxD (x p) = true
      · rw [if_pos c1, if_neg (by decide), if_pos c1, bnd_e, hp, nI_1, hstep]
      · rw [if_neg c1, if_pos rfl, if_neg c1, ← hp, zsI_self]
def lxNu (x : Nat → Int32) : Nat → Nat → Int64 → Int64
  | 0, _, a => a
  | f + 1, p, a => lxNu x f (p + 1) ((((10 : Int64) * a) + ((x p).toInt64)) - (48 : Int64))
theorem numberR_fold {N n q : Nat} {x : Nat → Int32} (hq : q ≤ n) : ∀ (m k : Nat) (τ : zSt), srcR x n τ → zI τ 0 17 = nI q → zI τ 0 19 = 2 → k ≤ q → q - k < m → fX12_number_b67 N m (nI k) τ = some ((), zsL τ 0 20 (lxNu x (q - k) k (zL τ 0 20))) := by
  intro m
  induction m with
  | zero => intro k τ h h1 h2 hk hm; omega
  | succ m ih =>
    intro k τ h h1 h2 hk hm
    have hn := h.2.1
    rw [fX12_number_b67, h1]
    by_cases e : q ≤ k
    · have e0 : q - k = 0 := by omega
      rw [if_pos ((nI_le' (by omega) (by omega)).mpr e), e0, lxNu, zsL_self]
    · have e1 : q - k = (q - (k + 1)) + 1 := by omega
      rw [if_neg (fun z => e ((nI_le' (by omega) (by omega)).mp z)), h2, if_pos rfl, if_neg (ix_ok (by omega) (by omega)), nI_clamp (by omega), h.2.2 k (by omega), bnd_e, bnd_e, nI_1, ih (k + 1) _ (srcR_L h 20 _) (by rw [zI_L]; exact h1) (by rw [zI_L]; exact h2) (by omega) (by omega), zsL_L, zL_s, e1, lxNu]
def lxNumb (x : Nat → Int32) (n p : Nat) : Nat × Int32 × Int64 := if 10 < lxRun lxD x (n - p) p - p then (lxRun lxD x (n - p) p, 5, 0) else (lxRun lxD x (n - p) p, 2, lxNu x (lxRun lxD x (n - p) p - p) p 0)
theorem numberR {N n p : Nat} {x : Nat → Int32} {τ : zSt} (h : srcR x n τ) (h17 : zI τ 0 17 = nI p) (h18 : zI τ 0 18 = nI p) (h20 : zL τ 0 20 = 0) (hp : p ≤ n) (hN : n + 20 ≤ N) :
    fX12_number N τ = some ((), zsL (zsI (zsI τ 0 17 (nI (lxNumb x n p).1)) 0 19 (lxNumb x n p).2.1) 0 20 (lxNumb x n p).2.2) := by
  have hn := h.2.1
  obtain ⟨r1, r2⟩ := lxRun_le lxD x (n - p) p
  unfold fX12_number lxNumb
  rw [numberR_run N p τ h h17 hp (by omega)]
  generalize lxRun lxD x (n - p) p = q at r1 r2 ⊢
  have e1 : nI q - nI p = nI (q - p) := pk_sub r1
  obtain ⟨N', rfl⟩ : ∃ N', N = N' + 9 := ⟨N - 9, by omega⟩
  have hs : srcR x n (zsI τ 0 17 (nI q)) := srcR_I h 17 _ (by decide)
  unfold fX12_number_b39
  have a17 : zI (zsI τ 0 17 (nI q)) 0 17 = nI q := zI_s τ 0 17 _
  have a18 : zI (zsI τ 0 17 (nI q)) 0 18 = nI p := by rw [zI_I, if_neg (by decide)]; exact h18
  rw [a17, a18, e1]
  by_cases e : 10 < q - p
  · rw [if_pos (show (10 : Int32) < nI (q - p) from nI_lt (a := 10) e (by omega)), if_pos e]
    unfold fX12_number_b59
    rw [bnd_e, bnd_e, fX12_number_b67]
    have k5 : zI (zsI (zsI τ 0 17 (nI q)) 0 19 5) 0 19 = 5 := zI_s _ 0 19 5
    have hz : zsL (zsI (zsI τ 0 17 (nI q)) 0 19 5) 0 20 0 = zsI (zsI τ 0 17 (nI q)) 0 19 5 := by
      have := zsL_self (zsI (zsI τ 0 17 (nI q)) 0 19 5) 0 20
      rw [zL_I, zL_I, h20] at this
      exact this
    rw [k5, hz]
    split
    · rfl
    · rw [if_neg (by decide)]
  · rw [if_neg (show ¬ (10 : Int32) < nI (q - p) from nI_nlt (a := 10) (b := q - p) (by omega) (by omega)), if_neg e]
    unfold fX12_number_b59
    have b18 : zI (zsI (zsI τ 0 17 (nI q)) 0 19 2) 0 18 = nI p := by rw [zI_I, if_neg (by decide)]; exact a18
    have b17 : zI (zsI (zsI τ 0 17 (nI q)) 0 19 2) 0 17 = nI q := by rw [zI_I, if_neg (by decide)]; exact a17
    rw [bnd_e, bnd_e, b18]
    have k1 : zI (zsI (zsI τ 0 17 (nI q)) 0 19 2) 0 19 = 2 := zI_s _ 0 19 2
    have t0 : zL (zsI (zsI τ 0 17 (nI q)) 0 19 2) 0 20 = 0 := h20
    rw [numberR_fold (n := n) (q := q) (by omega) (N' + 9) p _ (srcR_I hs 19 _ (by decide)) b17 k1 (by omega) (by omega), t0]
/-- sign(): c the sign, d the one behind it (-1: none) -/
def lxMore (c d : Int32) : Bool := decide (((c = 61 ∨ c = 33 ∨ c = 60 ∨ c = 62) ∧ d = 61) ∨ ((c = 124 ∨ c = 38 ∨ c = 60 ∨ c = 62) ∧ d = c))
def lxAlone (c : Int32) : Bool := decide (c = 40 ∨ c = 41 ∨ c = 123 ∨ c = 125 ∨ c = 91 ∨ c = 93 ∨ c = 44 ∨ c = 59 ∨ c = 94 ∨ c = 43 ∨ c = 45 ∨ c = 42 ∨ c = 47 ∨ c = 37 ∨ c = 126)
def lxOpen (c : Int32) : Bool := decide (c = 61 ∨ c = 33 ∨ c = 60 ∨ c = 62 ∨ c = 124 ∨ c = 38)
def b01 (b : Bool) : Int32 := if b = true then 1 else 0
theorem signR_200 {N : Nat} {c d a m : Int32} {τ : zSt} : fX12_sign_b200 N c d a m τ = fX12_sign_b243 N c d a m (b01 (lxOpen c)) τ := by
  unfold fX12_sign_b200 fX12_sign_b238 lxOpen b01
  simp only [decide_eq_true_eq]
  repeat' split
  all_goals first | rfl | (exfalso; simp_all)
theorem signR_166 {N : Nat} {c d a : Int32} {τ : zSt} : fX12_sign_b166 N c d a τ = fX12_sign_b200 N c d a (b01 (decide ((c = 124 ∨ c = 38 ∨ c = 60 ∨ c = 62) ∧ d = c))) τ := by
  unfold fX12_sign_b166 fX12_sign_b190 fX12_sign_b195 fX12_sign_b199 b01
  simp only [decide_eq_true_eq]
  repeat' split
  all_goals first | rfl | (exfalso; simp_all)
theorem signR_135 {N : Nat} {c d a : Int32} {τ : zSt} : fX12_sign_b135 N c d a τ = fX12_sign_b200 N c d a (b01 (lxMore c d)) τ := by
  unfold fX12_sign_b135 fX12_sign_b160 fX12_sign_b195 lxMore
  simp only [signR_166]
  unfold b01
  simp only [decide_eq_true_eq]
  repeat' split
  all_goals first | rfl | (exfalso; simp_all)
/-- what sign() makes: the kind, told, how many signs -/
def lxSig (c d : Int32) : Int32 × Int64 × Nat := if lxMore c d = true then (4, ((c <<< ((8 : Int32) &&& 31)) ||| d).toInt64, 2) else if lxAlone c = true ∨ lxOpen c = true then (4, c.toInt64, 1) else (5, c.toInt64, 1)
theorem signR_243 {N : Nat} {c d : Int32} {τ : zSt} : fX12_sign_b243 N c d (b01 (lxAlone c)) (b01 (lxMore c d)) (b01 (lxOpen c)) τ = some ((), if lxMore c d = true then zsI (zsL τ 0 20 (((c <<< ((8 : Int32) &&& 31)) ||| d).toInt64)) 0 17 (zI τ 0 17 + 1) else if lxAlone c = true ∨ lxOpen c = true then τ else zsI τ 0 19 5) := by
  unfold fX12_sign_b243 b01
  by_cases h1 : lxMore c d = true
  · simp [h1, bnd_e, zI_L]
  · by_cases h2 : lxAlone c = true
    · simp [h1, h2]
    · by_cases h3 : lxOpen c = true
      · simp [h1, h2, h3]
      · simp [h1, h2, h3, bnd_e]
theorem signR {N n p : Nat} {x : Nat → Int32} {τ : zSt} (h : srcR x n τ) (h17 : zI τ 0 17 = nI p) (hp : p < n) :
    fX12_sign N τ = some ((), zsL (zsI (zsI τ 0 17 (nI (p + (lxSig (x p) (if p + 1 < n then x (p + 1) else -1)).2.2))) 0 19 (lxSig (x p) (if p + 1 < n then x (p + 1) else -1)).1) 0 20 (lxSig (x p) (if p + 1 < n then x (p + 1) else -1)).2.1) := by
  have hn := h.2.1
  have hsee : fX12_see N (nI (p + 1)) (zsI τ 0 17 (nI (p + 1))) = some ((if p + 1 < n then x (p + 1) else -1), zsI τ 0 17 (nI (p + 1))) := by
    unfold fX12_see
    have h16 : zI (zsI τ 0 17 (nI (p + 1))) 0 16 = nI n := by rw [zI_I, if_neg (by decide)]; exact h.1
    rw [h16]
    by_cases e : p + 1 < n
    · rw [if_neg (fun q => absurd ((nI_le' (by omega) (by omega)).mp q) (by omega)), if_neg (ix_ok (by omega) (by omega)), nI_clamp (by omega), if_pos e]
      exact congrArg (fun z => some (z, _)) (h.2.2 (p + 1) e)
    · rw [if_pos ((nI_le' (by omega) (by omega)).mpr (by omega)), if_neg e]
  unfold fX12_sign
  rw [h17, if_neg (ix_ok (by omega) (by omega)), bnd_e, bnd_e, nI_1, nI_clamp (by omega), h.2.2 p hp, zI_s, hsee, obd_s, bnd_e, bnd_e]
  generalize hd : (if p + 1 < n then x (p + 1) else (-1 : Int32)) = d
  generalize x p = c
  have e17 : zI (zsL (zsI (zsI τ 0 17 (nI (p + 1))) 0 19 4) 0 20 c.toInt64) 0 17 = nI (p + 1) := by
    rw [zI_L, zI_I, if_neg (by decide)]
    exact zI_s _ _ _ _
  have key : fX12_sign_b135 N c d (b01 (lxAlone c)) (zsL (zsI (zsI τ 0 17 (nI (p + 1))) 0 19 4) 0 20 c.toInt64) = some ((), zsL (zsI (zsI τ 0 17 (nI (p + (lxSig c d).2.2))) 0 19 (lxSig c d).1) 0 20 (lxSig c d).2.1) := by
    rw [signR_135, signR_200, signR_243, e17]
    unfold lxSig
    by_cases h1 : lxMore c d = true
    · rw [if_pos h1, if_pos h1, zsL_L, zsIL, zsI_swap _ 0 19 0 17 _ _ (by decide), zsI_I, nI_1]
      rfl
    · rw [if_neg h1, if_neg h1]
      by_cases h2 : lxAlone c = true ∨ lxOpen c = true
      · rw [if_pos h2, if_pos h2]
      · rw [if_neg h2, if_neg h2, zsIL, zsI_I]
  rw [← key]
  unfold fX12_sign_b130
  by_cases q0 : c = 40
  · rw [if_pos q0, show b01 (lxAlone c) = 1 by rw [q0]; rfl]
  rw [if_neg q0]
  by_cases q1 : c = 41
  · rw [if_pos q1, show b01 (lxAlone c) = 1 by rw [q1]; rfl]
  rw [if_neg q1]
  by_cases q2 : c = 123
  · rw [if_pos q2, show b01 (lxAlone c) = 1 by rw [q2]; rfl]
  rw [if_neg q2]
  by_cases q3 : c = 125
  · rw [if_pos q3, show b01 (lxAlone c) = 1 by rw [q3]; rfl]
  rw [if_neg q3]
  by_cases q4 : c = 91
  · rw [if_pos q4, show b01 (lxAlone c) = 1 by rw [q4]; rfl]
  rw [if_neg q4]
  by_cases q5 : c = 93
  · rw [if_pos q5, show b01 (lxAlone c) = 1 by rw [q5]; rfl]
  rw [if_neg q5]
  by_cases q6 : c = 44
  · rw [if_pos q6, show b01 (lxAlone c) = 1 by rw [q6]; rfl]
  rw [if_neg q6]
  by_cases q7 : c = 59
  · rw [if_pos q7, show b01 (lxAlone c) = 1 by rw [q7]; rfl]
  rw [if_neg q7]
  by_cases q8 : c = 94
  · rw [if_pos q8, show b01 (lxAlone c) = 1 by rw [q8]; rfl]
  rw [if_neg q8]
  by_cases q9 : c = 43
  · rw [if_pos q9, show b01 (lxAlone c) = 1 by rw [q9]; rfl]
  rw [if_neg q9]
  by_cases q10 : c = 45
  · rw [if_pos q10, show b01 (lxAlone c) = 1 by rw [q10]; rfl]
  rw [if_neg q10]
  by_cases q11 : c = 42
  · rw [if_pos q11, show b01 (lxAlone c) = 1 by rw [q11]; rfl]
  rw [if_neg q11]
  by_cases q12 : c = 47
  · rw [if_pos q12, show b01 (lxAlone c) = 1 by rw [q12]; rfl]
  rw [if_neg q12]
  by_cases q13 : c = 37
  · rw [if_pos q13, show b01 (lxAlone c) = 1 by rw [q13]; rfl]
  rw [if_neg q13]
  by_cases q14 : c = 126
  · rw [if_pos q14, show b01 (lxAlone c) = 1 by rw [q14]; rfl]
  rw [if_neg q14]
  rw [show b01 (lxAlone c) = 0 by simp [lxAlone, b01, q0, q1, q2, q3, q4, q5, q6, q7, q8, q9, q10, q11, q12, q13, q14]]
/-- the token that is come to from p on: its end, its place, its kind, what is told -/
def lxTok (x : Nat → Int32) (n p : Nat) : Nat × Nat × Int32 × Int64 :=
  let q := lxRun lxB x (n - p) p
  if n ≤ q then (q, q, 0, 0)
  else if lxL (x q) = true then ((lxName x n q).1, q, (lxName x n q).2.1, (lxName x n q).2.2)
  else if lxD (x q) = true then ((lxNumb x n q).1, q, (lxNumb x n q).2.1, (lxNumb x n q).2.2)
  else (q + (lxSig (x q) (if q + 1 < n then x (q + 1) else -1)).2.2, q, (lxSig (x q) (if q + 1 < n then x (q + 1) else -1)).1, (lxSig (x q) (if q + 1 < n then x (q + 1) else -1)).2.1)
theorem tok_eq {τ : zSt} {p e : Nat} {k : Int32} {t : Int64} (v : Int32) : zsL (zsI (zsI (zsL (zsI (zsI τ 0 17 v) 0 18 (nI p)) 0 20 0) 0 17 (nI e)) 0 19 k) 0 20 t = tokS τ e p k t := by
  unfold tokS
  rw [zsIL, zsIL, zsL_L, zsI_swap τ 0 17 0 18 _ _ (by decide), zsI_I]
theorem nextR {N n p : Nat} {x : Nat → Int32} {τ : zSt} (h : srcR x n τ) (h17 : zI τ 0 17 = nI p) (hp : p ≤ n) (hN : n + 20 ≤ N) :
    fX12_next N τ = some ((), tokS τ (lxTok x n p).1 (lxTok x n p).2.1 (lxTok x n p).2.2.1 (lxTok x n p).2.2.2) := by
  have hn := h.2.1
  obtain ⟨r1, r2⟩ := lxRun_le lxB x (n - p) p
  unfold fX12_next lxTok
  rw [nextR_skip N p τ h h17 hp (by omega)]
  generalize lxRun lxB x (n - p) p = q at r1 r2 ⊢
  have hs : srcR x n (zsL (zsI (zsI τ 0 17 (nI q)) 0 18 (nI q)) 0 20 0) := srcR_L (srcR_I (srcR_I h 17 _ (by decide)) 18 _ (by decide)) 20 0
  have a17 : zI (zsI τ 0 17 (nI q)) 0 17 = nI q := zI_s _ _ _ _
  have b17 : zI (zsL (zsI (zsI τ 0 17 (nI q)) 0 18 (nI q)) 0 20 0) 0 17 = nI q := by rw [zI_L, zI_I, if_neg (by decide)]; exact a17
  have b18 : zI (zsL (zsI (zsI τ 0 17 (nI q)) 0 18 (nI q)) 0 20 0) 0 18 = nI q := by rw [zI_L]; exact zI_s _ _ _ _
  have b20 : zL (zsL (zsI (zsI τ 0 17 (nI q)) 0 18 (nI q)) 0 20 0) 0 20 = 0 := zL_s _ _ _ _
  unfold fX12_next_b52
  rw [bnd_e, bnd_e, a17, hs.1, b17]
  by_cases e : n ≤ q
  · rw [if_neg (nI_nlt e (by omega)), bnd_e]
    simp only [if_pos e]
    rw [← tok_eq (nI q)]
    rw [show zsI (zsL (zsI (zsI τ 0 17 (nI q)) 0 18 (nI q)) 0 20 0) 0 17 (nI q) = zsL (zsI (zsI τ 0 17 (nI q)) 0 18 (nI q)) 0 20 0 from (by have hh := zsI_self (zsL (zsI (zsI τ 0 17 (nI q)) 0 18 (nI q)) 0 20 0) 0 17; rw [b17] at hh; exact hh)]
    rw [zsIL, zsL_L]
  · have hc : zA (zsL (zsI (zsI τ 0 17 (nI q)) 0 18 (nI q)) 0 20 0) 6 q = x q := hs.2.2 q (by omega)
    rw [if_pos (nI_lt (by omega) (by omega)), if_neg (ix_ok (by omega) (by omega)), nI_clamp (by omega), hc, isLetterR, obd_s]
    simp only [if_neg e]
    by_cases c1 : lxL (x q) = true
    · rw [if_pos c1, if_neg (by decide), nameR hs b17 b18 b20 (by omega) hN, obd_s, if_pos c1, tok_eq]
    · rw [if_neg c1, if_pos rfl, b17, if_neg (ix_ok (by omega) (by omega)), nI_clamp (by omega), hc, isDigitR, obd_s, if_neg c1]
      by_cases c2 : lxD (x q) = true
      · rw [if_pos c2, if_neg (by decide), numberR hs b17 b18 b20 (by omega) hN, obd_s, if_pos c2, tok_eq]
      · rw [if_neg c2, if_pos rfl, signR hs b17 (by omega), obd_s, if_neg c2, tok_eq]
