/-! FACTS of the middle's reader -/
def sat {α : Type} (r : Except Int32 α) (Q : α → Prop) : Prop := match r with
  | .error e => e ≠ 0
  | .ok v => Q v
theorem sat_xb {α β : Type} {a : Except Int32 α} {f : α → Except Int32 β} {Q : α → Prop} {R : β → Prop} (h : sat a Q) (hf : ∀ v, a = .ok v → Q v → sat (f v) R) : sat (xb a f) R := by
  cases a with
  | error e => exact h
  | ok v => exact hf v rfl h
theorem sat_ok {α : Type} {v : α} {Q : α → Prop} (h : Q v) : sat (.ok v) Q := h
theorem sat_mono {α : Type} {r : Except Int32 α} {Q R : α → Prop} (h : sat r Q) (hq : ∀ v, Q v → R v) : sat r R := by
  cases r with
  | error e => exact h
  | ok v => exact hq v h
theorem sat_get {α : Type} {r : Except Int32 α} {Q : α → Prop} {v : α} (h : sat r Q) (e : r = .ok v) : Q v := by rw [e] at h; exact h
def erK (k : Int32) : Prop := ∃ j : Nat, 1 ≤ j ∧ j ≤ 15 ∧ k = nI j
theorem er_ne {k : Int32} {p : Nat} (hk : erK k) (hp : p ≤ 4096) : k + 16 * nI p ≠ 0 := by
  obtain ⟨j, h1, h2, rfl⟩ := hk
  rw [show (16 : Int32) = nI 16 from rfl, pk_mul, nI_add]
  exact nI_ne0 (by omega) (by omega)
theorem erK1 : erK 1 := ⟨1, by omega, by omega, rfl⟩
theorem erK2 : erK 2 := ⟨2, by omega, by omega, rfl⟩
theorem erK3 : erK 3 := ⟨3, by omega, by omega, rfl⟩
theorem erK4 : erK 4 := ⟨4, by omega, by omega, rfl⟩
theorem erK5 : erK 5 := ⟨5, by omega, by omega, rfl⟩
theorem erK6 : erK 6 := ⟨6, by omega, by omega, rfl⟩
theorem erK7 : erK 7 := ⟨7, by omega, by omega, rfl⟩
theorem erK8 : erK 8 := ⟨8, by omega, by omega, rfl⟩
theorem erK9 : erK 9 := ⟨9, by omega, by omega, rfl⟩
theorem erK10 : erK 10 := ⟨10, by omega, by omega, rfl⟩
theorem erK11 : erK 11 := ⟨11, by omega, by omega, rfl⟩
theorem sat_er {α : Type} {k : Int32} {p : Nat} {Q : α → Prop} (hk : erK k) (hp : p ≤ 4096) : sat (er k p) Q := er_ne hk hp
def tkO (n : Nat) (t : yTok) : Prop := t.2.1 ≤ t.1 ∧ t.1 ≤ n ∧ (t.2.2.1 = 58 ∨ t.2.1 < t.1) ∧ t.2.2.1 ≠ -1
theorem lxRun_step {P : Int32 → Bool} {x : Nat → Int32} {f p : Nat} (h : P (x p) = true) (hf : 0 < f) : p < lxRun P x f p := by
  cases f with
  | zero => omega
  | succ f =>
    have := (lxRun_le P x f (p + 1)).1
    simp only [lxRun, h, if_true]
    omega
theorem lxMore_no (c : Int32) : lxMore c (-1) = false := by
  unfold lxMore
  rw [decide_eq_false_iff_not]
  rintro (⟨-, h⟩ | ⟨h1, h2⟩)
  · exact absurd h (by decide)
  · rw [← h2] at h1
    exact absurd h1 (by decide)
theorem yAt_ok (x : Nat → Int32) (n p : Nat) (hp : p ≤ n) : p ≤ (yAt x n p).2.1 ∧ (yAt x n p).2.1 ≤ (yAt x n p).1 ∧ (yAt x n p).1 ≤ n ∧ ((yAt x n p).2.2.1 = 58 ∨ (yAt x n p).2.1 < (yAt x n p).1) := by
  obtain ⟨r1, r2⟩ := lxRun_le lxB x (n - p) p
  unfold yAt lxTok
  generalize lxRun lxB x (n - p) p = q at *
  by_cases e : n ≤ q
  · simp only [if_pos e]
    exact ⟨r1, Nat.le_refl _, by omega, Or.inl (by decide)⟩
  · simp only [if_neg e]
    by_cases c1 : lxL (x q) = true
    · have s1 := lxRun_le lxLD x (n - q) q
      have s2 := lxRun_step (P := lxLD) (x := x) (f := n - q) (p := q) (by simp [lxLD, c1]) (by omega)
      simp only [if_pos c1]
      have s3 : (lxName x n q).1 = lxRun lxLD x (n - q) q := by unfold lxName; split <;> rfl
      rw [s3]
      exact ⟨r1, by omega, by omega, Or.inr s2⟩
    · by_cases c2 : lxD (x q) = true
      · have s1 := lxRun_le lxD x (n - q) q
        have s2 := lxRun_step (P := lxD) (x := x) (f := n - q) (p := q) c2 (by omega)
        simp only [if_neg c1, if_pos c2]
        have s3 : (lxNumb x n q).1 = lxRun lxD x (n - q) q := by unfold lxNumb; split <;> rfl
        rw [s3]
        exact ⟨r1, by omega, by omega, Or.inr s2⟩
      · simp only [if_neg c1, if_neg c2]
        have s1 : 1 ≤ (lxSig (x q) (if q + 1 < n then x (q + 1) else -1)).2.2 ∧ (lxSig (x q) (if q + 1 < n then x (q + 1) else -1)).2.2 ≤ n - q := by
          unfold lxSig
          by_cases hq : q + 1 < n
          · simp only [if_pos hq]
            repeat' split
            all_goals (constructor <;> simp <;> omega)
          · simp only [if_neg hq, lxMore_no]
            repeat' split
            all_goals first | contradiction | (constructor <;> simp <;> omega)
        exact ⟨r1, by omega, by omega, Or.inr (by omega)⟩
theorem cm_ok {x : Nat → Int32} {n : Nat} {t : yTok} (hn : n ≤ 4096) (h : t.1 ≤ n) : sat (cm x n t) (fun u => tkO n u ∧ t.1 ≤ u.2.1) := by
  obtain ⟨h1, h2, h3, h4⟩ := yAt_ok x n t.1 h
  unfold cm
  split
  · exact sat_er erK1 (by omega)
  · rename_i e
    exact ⟨⟨h2, h3, h4, e⟩, h1⟩
theorem fo_ok {tc c p : Nat} (hp : p ≤ 4096) : sat (fo tc c p) (fun c1 => c1 = c + 4 ∧ c1 ≤ tc) := by
  unfold fo
  split
  · exact sat_er erK9 hp
  · exact ⟨rfl, by omega⟩
theorem ne_ok {ns p : Nat} (hp : p ≤ 4096) (hs : ns ≤ 40) : sat (ne ns p) (fun _ => ns + 1 ≤ 40) := by
  unfold ne
  split
  · exact sat_er erK8 hp
  · show ns + 1 ≤ 40; omega
theorem need_ok {k : Int32} {t : yTok} (hp : t.2.1 ≤ 4096) : sat (need k t) (fun _ => t.2.2.1 = k) := by
  unfold need
  split
  · assumption
  · exact sat_er erK2 hp
theorem lkN_lt {f : Nat → Int64} {w : Int64} : ∀ {m j : Nat}, lkN f w m = some j → j < m ∧ f j = w := by
  intro m
  induction m with
  | zero => intro j h; cases h
  | succ m ih =>
    intro j h
    unfold lkN at h
    split at h
    · cases h; exact ⟨by omega, by assumption⟩
    · have := ih h; exact ⟨by omega, this.2⟩
/-- WELL MADE: role 0 an E, 1 an S, 2 a list of S, 3 a list of so many E, 4 none -/
def plOk (np K : Nat) (v : Int) : Prop := (0 ≤ v ∧ v < K) ∨ (-2 - (np : Int) ≤ v ∧ v ≤ -3)
abbrev yW : Type := Nat → Nat → Prop
def wfN (G : gE) (gs np K : Nat) (k : Nat) (v w : Int) (A B C : yW) : yW := fun r _ =>
  if r = 0 then (
    if k = 1 ∨ k = 10 then True else if k = 2 then 0 ≤ v ∧ v < gs else if k = 3 then plOk np K v
    else if k = 4 then A 0 0 ∧ 0 ≤ v ∧ 1 ≤ w ∧ v + w ≤ gs
    else if k = 5 then A 0 0 ∧ 24 ≤ v ∧ v ≤ 26
    else if k = 6 then A 0 0 ∧ B 0 0 ∧ ((10 ≤ v ∧ v ≤ 23) ∨ v = 27 ∨ v = 28)
    else if k = 7 ∨ k = 8 then A 0 0 ∧ B 0 0
    else if k = 9 then 0 ≤ v ∧ 0 ≤ w ∧ w ≤ 8 ∧ A 3 w.toNat ∧ v.toNat < G.2.2.2.2 ∧ G.2.1 v.toNat = 2 ∧ G.2.2.2.1 v.toNat = nI w.toNat
    else False)
  else if r = 1 then (
    if k = 20 then A 2 0 else if k = 21 then (A 4 0 ∨ A 0 0) ∧ 0 ≤ v ∧ v < K
    else if k = 22 then A 0 0 ∧ B 1 0 ∧ (C 4 0 ∨ C 1 0) else if k = 23 then A 0 0 ∧ B 1 0
    else if k = 24 ∨ k = 25 ∨ k = 29 then A 0 0 else if k = 26 then A 0 0 ∧ 0 ≤ v ∧ v < gs else if k = 27 then A 0 0 ∧ plOk np K v
    else if k = 28 then A 0 0 ∧ B 0 0 ∧ 0 ≤ v ∧ 1 ≤ w ∧ v + w ≤ gs else k = 30)
  else False
def wfC (t r : yW) : yW := fun l m => if l = 2 then t 1 0 ∧ r 2 0 else if l = 3 then ∃ j, m = j + 1 ∧ t 0 0 ∧ r 3 j else False
def wfZ : yW := fun l m => l = 2 ∨ (l = 3 ∧ m = 0) ∨ l = 4
def wf (G : gE) (gs np K : Nat) (t : fT) : yW := ff wfZ (wfN G gs np K) wfC t
theorem wf_N {G : gE} {gs np K k : Nat} {v w : Int} {A B C : fT} : wf G gs np K (fN k v w A B C) = wfN G gs np K k v w (wf G gs np K A) (wf G gs np K B) (wf G gs np K C) := ff_N _ _ _ _ _ _ _ _ _
theorem wf_C {G : gE} {gs np K : Nat} {t r : fT} : wf G gs np K (fC t r) = wfC (wf G gs np K t) (wf G gs np K r) := ff_C _ _ _ _ _
theorem wf_Z {G : gE} {gs np K : Nat} : wf G gs np K fZ = wfZ := ff_Z _ _ _
def gExt (G G' : gE) : Prop := G.2.2.2.2 ≤ G'.2.2.2.2 ∧ ∀ g, g < G.2.2.2.2 → G'.1 g = G.1 g ∧ G'.2.1 g = G.2.1 g ∧ G'.2.2.1 g = G.2.2.1 g ∧ G'.2.2.2.1 g = G.2.2.2.1 g
theorem wf_mono {G G' : gE} {gs gs' np K K' : Nat} (hG : gExt G G') (hg : gs ≤ gs') (hK : K ≤ K') : ∀ t r m, wf G gs np K t r m → wf G' gs' np K' t r m := by
  have hp : ∀ v, plOk np K v → plOk np K' v := by
    intro v h
    rcases h with h | h
    · exact Or.inl (by omega)
    · exact Or.inr h
  apply ff_ind
  · intro t h r m
    unfold wf
    rw [h, h]
    exact id
  · intro k v w A B C hA hB hC r m
    rw [wf_N, wf_N]
    unfold wfN
    intro h
    by_cases r0 : r = 0
    · subst r0
      rw [if_pos rfl] at h ⊢
      by_cases k1 : k = 1
      · subst k1; simp only [reduceIte, Nat.reduceEqDiff, or_false, false_or, or_self, true_or, or_true]
      by_cases k10 : k = 10
      · subst k10; simp only [reduceIte, Nat.reduceEqDiff, or_false, false_or, or_self, true_or, or_true]
      by_cases k2 : k = 2
      · subst k2; simp only [reduceIte, Nat.reduceEqDiff, or_false, false_or, or_self, true_or, or_true] at h ⊢; exact ⟨h.1, by omega⟩
      by_cases k3 : k = 3
      · subst k3; simp only [reduceIte, Nat.reduceEqDiff, or_false, false_or, or_self, true_or, or_true] at h ⊢; exact hp v h
      by_cases k4 : k = 4
      · subst k4; simp only [reduceIte, Nat.reduceEqDiff, or_false, false_or, or_self, true_or, or_true] at h ⊢; exact ⟨hA _ _ h.1, h.2.1, h.2.2.1, by omega⟩
      by_cases k5 : k = 5
      · subst k5; simp only [reduceIte, Nat.reduceEqDiff, or_false, false_or, or_self, true_or, or_true] at h ⊢; exact ⟨hA _ _ h.1, h.2⟩
      by_cases k6 : k = 6
      · subst k6; simp only [reduceIte, Nat.reduceEqDiff, or_false, false_or, or_self, true_or, or_true] at h ⊢; exact ⟨hA _ _ h.1, hB _ _ h.2.1, h.2.2⟩
      by_cases k7 : k = 7
      · subst k7; simp only [reduceIte, Nat.reduceEqDiff, or_false, false_or, or_self, true_or, or_true] at h ⊢; exact ⟨hA _ _ h.1, hB _ _ h.2⟩
      by_cases k8 : k = 8
      · subst k8; simp only [reduceIte, Nat.reduceEqDiff, or_false, false_or, or_self, true_or, or_true] at h ⊢; exact ⟨hA _ _ h.1, hB _ _ h.2⟩
      by_cases k9 : k = 9
      · subst k9; simp only [reduceIte, Nat.reduceEqDiff, or_false, false_or, or_self, true_or, or_true] at h ⊢; exact ⟨h.1, h.2.1, h.2.2.1, hA _ _ h.2.2.2.1, Nat.lt_of_lt_of_le h.2.2.2.2.1 hG.1, (hG.2 _ h.2.2.2.2.1).2.1.trans h.2.2.2.2.2.1, (hG.2 _ h.2.2.2.2.1).2.2.2.trans h.2.2.2.2.2.2⟩
      simp only [k1, k10, k2, k3, k4, k5, k6, k7, k8, k9, or_self, if_false] at h
    · rw [if_neg r0] at h ⊢
      by_cases r1 : r = 1
      · subst r1
        rw [if_pos rfl] at h ⊢
        by_cases k20 : k = 20
        · subst k20; simp only [reduceIte, Nat.reduceEqDiff, or_false, false_or, or_self, true_or, or_true] at h ⊢; exact hA _ _ h
        by_cases k21 : k = 21
        · subst k21; simp only [reduceIte, Nat.reduceEqDiff, or_false, false_or, or_self, true_or, or_true] at h ⊢; exact ⟨h.1.imp (hA _ _) (hA _ _), h.2.1, by omega⟩
        by_cases k22 : k = 22
        · subst k22; simp only [reduceIte, Nat.reduceEqDiff, or_false, false_or, or_self, true_or, or_true] at h ⊢; exact ⟨hA _ _ h.1, hB _ _ h.2.1, h.2.2.imp (hC _ _) (hC _ _)⟩
        by_cases k23 : k = 23
        · subst k23; simp only [reduceIte, Nat.reduceEqDiff, or_false, false_or, or_self, true_or, or_true] at h ⊢; exact ⟨hA _ _ h.1, hB _ _ h.2⟩
        by_cases k24 : k = 24
        · subst k24; simp only [reduceIte, Nat.reduceEqDiff, or_false, false_or, or_self, true_or, or_true] at h ⊢; exact hA _ _ h
        by_cases k25 : k = 25
        · subst k25; simp only [reduceIte, Nat.reduceEqDiff, or_false, false_or, or_self, true_or, or_true] at h ⊢; exact hA _ _ h
        by_cases k29 : k = 29
        · subst k29; simp only [reduceIte, Nat.reduceEqDiff, or_false, false_or, or_self, true_or, or_true] at h ⊢; exact hA _ _ h
        by_cases k26 : k = 26
        · subst k26; simp only [reduceIte, Nat.reduceEqDiff, or_false, false_or, or_self, true_or, or_true] at h ⊢; exact ⟨hA _ _ h.1, h.2.1, by omega⟩
        by_cases k27 : k = 27
        · subst k27; simp only [reduceIte, Nat.reduceEqDiff, or_false, false_or, or_self, true_or, or_true] at h ⊢; exact ⟨hA _ _ h.1, hp v h.2⟩
        by_cases k28 : k = 28
        · subst k28; simp only [reduceIte, Nat.reduceEqDiff, or_false, false_or, or_self, true_or, or_true] at h ⊢; exact ⟨hA _ _ h.1, hB _ _ h.2.1, h.2.2.1, h.2.2.2.1, by omega⟩
        simp only [k20, k21, k22, k23, k24, k25, k29, k26, k27, k28, or_self, if_false] at h ⊢
        exact h
      · rw [if_neg r1] at h; exact h.elim
  · intro t r ht hr l m
    rw [wf_C, wf_C]
    unfold wfC
    by_cases e2 : l = 2
    · rw [if_pos e2, if_pos e2]; exact fun ⟨h1, h2⟩ => ⟨ht _ _ h1, hr _ _ h2⟩
    · rw [if_neg e2, if_neg e2]
      by_cases e3 : l = 3
      · rw [if_pos e3, if_pos e3]; exact fun ⟨j, h0, h1, h2⟩ => ⟨j, h0, ht _ _ h1, hr _ _ h2⟩
      · rw [if_neg e3, if_neg e3]; exact id
