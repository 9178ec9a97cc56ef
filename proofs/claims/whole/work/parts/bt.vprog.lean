/-! THE MACHINE: a program's instructions, frames on the stack -/
theorem av_in : ∀ (t : fT) (p h q g : Nat), (av t).2.2 p h q g → p ≤ q ∧ q < p + (gl t).2 := by
  apply ff_ind
  · intro t hz p h q g hq
    rw [av_isZ hz] at hq
    exact hq.elim
  · intro k v w A B D hA hB hD p h q g hq
    have gA : (av A).1.2 = (gl A).2 := by rw [av_gl]
    have gB : (av B).1.2 = (gl B).2 := by rw [av_gl]
    have bA : (av A).1.1 = (gl A).1 := by rw [av_gl]
    have bD : (av D).1.1 = (gl D).1 := by rw [av_gl]
    rw [av_N] at hq
    rw [gl_N]
    unfold avN at hq
    unfold glN
    simp only [gA, gB, bA, bD] at hq
    show p ≤ q ∧ q < p + (if k = 1 ∨ k = 2 ∨ k = 3 then 2 else if k = 4 then (gl A).2 + 3 else if k = 5 then (gl A).2 + 1 else if k = 6 then (gl A).2 + ((gl B).2 + 1)
      else if k = 7 then (gl A).2 + (2 + ((gl B).2 + 8)) else if k = 8 then (gl A).2 + (6 + ((gl B).2 + 8)) else if k = 9 then (gl A).2 + 3 else if k = 10 then 1
      else if k = 20 then (gl A).2 else if k = 21 then (if (gl A).1 = true then (gl A).2 else 2) + 2
      else if k = 22 then (if (gl D).1 = true then (gl A).2 + (2 + ((gl B).2 + (2 + (gl D).2))) else (gl A).2 + (2 + (gl B).2))
      else if k = 23 then (gl A).2 + (2 + ((gl B).2 + 2)) else if k = 24 then (gl A).2 + 2 else if k = 25 then (gl A).2 + 1 else if k = 26 ∨ k = 27 then (gl A).2 + 2
      else if k = 28 then (gl A).2 + ((gl B).2 + 3) else if k = 29 then (gl A).2 + 1 else 0)
    by_cases c1 : k = 1 ∨ k = 2 ∨ k = 3 ∨ k = 10
    · rw [if_pos c1] at hq
      rcases c1 with e | e | e | e <;> subst e <;> simp <;> omega
    rw [if_neg c1] at hq
    by_cases c2 : k = 4 ∨ k = 5 ∨ k = 9 ∨ k = 24 ∨ k = 25 ∨ k = 26 ∨ k = 27 ∨ k = 29
    · rw [if_pos c2] at hq
      have : p ≤ q ∧ q ≤ p + (gl A).2 := by
        rcases hq with hq | hq
        · have := hA p h q g hq; omega
        · omega
      rcases c2 with e | e | e | e | e | e | e | e <;> subst e <;> simp <;> omega
    rw [if_neg c2] at hq
    by_cases c3 : k = 6 ∨ k = 28
    · rw [if_pos c3] at hq
      have : p ≤ q ∧ q ≤ p + (gl A).2 + (gl B).2 := by
        rcases hq with hq | hq | hq
        · have := hA _ _ _ _ hq; omega
        · have := hB _ _ _ _ hq; omega
        · omega
      rcases c3 with e | e <;> subst e <;> simp <;> omega
    rw [if_neg c3] at hq
    by_cases c4 : k = 7
    · rw [if_pos c4] at hq
      have : p ≤ q ∧ q ≤ p + (gl A).2 + (gl B).2 + 8 := by
        rcases hq with hq | hq | hq | hq | hq | hq | hq
        · have := hA _ _ _ _ hq; omega
        · omega
        · have := hB _ _ _ _ hq; omega
        all_goals omega
      subst c4; simp; omega
    rw [if_neg c4] at hq
    by_cases c5 : k = 8
    · rw [if_pos c5] at hq
      have : p ≤ q ∧ q ≤ p + (gl A).2 + (gl B).2 + 12 := by
        rcases hq with hq | hq | hq | hq | hq | hq | hq | hq | hq
        · have := hA _ _ _ _ hq; omega
        · omega
        · omega
        · omega
        · have := hB _ _ _ _ hq; omega
        all_goals omega
      subst c5; simp; omega
    rw [if_neg c5] at hq
    by_cases c6 : k = 20
    · rw [if_pos c6] at hq
      have := hA _ _ _ _ hq
      subst c6; simp; omega
    rw [if_neg c6] at hq
    by_cases c7 : k = 21
    · rw [if_pos c7] at hq
      subst c7
      by_cases b : (gl A).1 = true
      · rw [if_pos b] at hq
        have : p ≤ q ∧ q ≤ p + (gl A).2 := by
          rcases hq with hq | hq
          · have := hA _ _ _ _ hq; omega
          · omega
        simp [b]; omega
      · rw [if_neg b] at hq
        simp [b]; omega
    rw [if_neg c7] at hq
    by_cases c8 : k = 22
    · rw [if_pos c8] at hq
      subst c8
      by_cases b : (gl D).1 = true
      · have : p ≤ q ∧ q < p + (gl A).2 + 2 + (gl B).2 + 2 + (gl D).2 := by
          rcases hq with hq | hq | hq | ⟨-, hq | hq⟩
          · have := hA _ _ _ _ hq; omega
          · omega
          · have := hB _ _ _ _ hq; omega
          · omega
          · have := hD _ _ _ _ hq; omega
        simp [b]; omega
      · have : p ≤ q ∧ q < p + (gl A).2 + 2 + (gl B).2 := by
          rcases hq with hq | hq | hq | ⟨hb, hq⟩
          · have := hA _ _ _ _ hq; omega
          · omega
          · have := hB _ _ _ _ hq; omega
          · exact absurd hb b
        simp [b]; omega
    rw [if_neg c8] at hq
    by_cases c9 : k = 23
    · rw [if_pos c9] at hq
      have : p ≤ q ∧ q ≤ p + (gl A).2 + (gl B).2 + 2 := by
        rcases hq with hq | hq | hq | hq
        · have := hA _ _ _ _ hq; omega
        · omega
        · have := hB _ _ _ _ hq; omega
        · omega
      subst c9; simp; omega
    rw [if_neg c9] at hq
    exact hq.elim
  · intro t s ht hs p h q g hq
    rw [av_C] at hq
    rw [gl_C]
    have gt : (av t).1.2 = (gl t).2 := by rw [av_gl]
    show p ≤ q ∧ q < p + ((gl t).2 + (gl s).2)
    rcases hq with hq | hq
    · have := ht _ _ _ _ hq; omega
    · have := hs _ _ _ _ hq
      rw [gt] at this
      omega
def isF (P : yP) (g : Nat) : Prop := g < P.1.2.2.2.2 ∧ P.1.2.1 g = 2
def npF (P : yP) (g : Nat) : Nat := (P.1.2.2.2.1 g).toNatClampNeg
/-- where instructions of FUNCTION g begin, and how many values lie above its LOCALS -/
def WF (P : yP) (g q h : Nat) : Prop := (av (P.2.2.2.1 g)).2.2 (szN P g + 2) 0 q h ∨ (q = szN P g + 2 + (gl (P.2.2.2.1 g)).2 ∧ h = 0) ∨ (q = szN P g + 2 + (gl (P.2.2.2.1 g)).2 + 2 ∧ h = 1)
/-- facts of a program that is kept -/
def pK (P : yP) : Prop := (∀ g, isF P g → P.2.2.2.2 g ≤ 4096 ∧ npF P g ≤ 8 ∧ P.1.2.2.2.1 g = nI (npF P g) ∧ wf (gC P.1 (g + 1)) P.2.1 (npF P g) (P.2.2.2.2 g) (P.2.2.2.1 g) 1 0) ∧ P.2.2.1 = szN P P.1.2.2.2.2 ∧ P.2.2.1 ≤ 4096 ∧ P.2.1 ≤ 600000
theorem szN_s {P : yP} {g : Nat} (h : P.1.2.1 g = 2) : szN P (g + 1) = szN P g + (6 + (gl (P.2.2.2.1 g)).2) := by
  show szN P g + (if P.1.2.1 g = 2 then 6 + (gl (P.2.2.2.1 g)).2 else 0) = _
  rw [if_pos h]
theorem WF_in {P : yP} {g q h : Nat} (hk : pK P) (hg : isF P g) (hw : WF P g q h) : szN P g + 2 ≤ q ∧ q < P.2.2.1 := by
  have h1 := szN_s hg.2
  have h2 := szN_mono (P := P) (show g + 1 ≤ P.1.2.2.2.2 from hg.1)
  have h3 := hk.2.1
  rcases hw with hw | hw | hw
  · have := av_in _ _ _ _ _ hw
    omega
  · omega
  · omega
theorem cw_prF {P : yP} {C : Nat → Int32} : ∀ (m : Nat), cw C 4 (prF P m) → ∀ g, g < m → P.1.2.1 g = 2 → cw C (szN P g) (fcd P g) := by
  intro m
  induction m with
  | zero => intro _ g hg; omega
  | succ m ih =>
    intro h g hg hk
    rw [prF] at h
    obtain ⟨h1, h2⟩ := cw_app h
    rw [prF_len] at h2
    by_cases e : g = m
    · subst e
      rw [if_pos hk] at h2
      exact h2
    · exact ih h1 g (by omega) hk
theorem WF_ck {P : yP} {C : Nat → Int32} {g q h : Nat} (hk : pK P) (hg : isF P g) (hc : cw C (szN P g) (fcd P g)) (hw : WF P g q h) : ck C (gC P.1 (g + 1)) P.2.1 (npF P g) (P.2.2.2.2 g) (fun g => nI (szN P g)) (WF P g) q h := by
  obtain ⟨k1, k2, k3, k4⟩ := hk.1 g hg
  unfold fcd at hc
  rw [k3] at hc
  obtain ⟨c1, c2⟩ := cw_app hc
  obtain ⟨c2, c3⟩ := cw_app c2
  rw [show szN P g + [37, nI (P.2.2.2.2 g)].length = szN P g + 2 from rfl] at c2 c3
  rw [(gn_len _ _ _).2] at c3
  have hs := av_s _ _ _ k4
  rcases hw with hw | ⟨rfl, rfl⟩ | ⟨rfl, rfl⟩
  · exact ck_t (W := WF P g) _ 1 0 k4 (szN P g + 2) 0 c2 (fun q g hq => Or.inl hq) (Or.inr (Or.inl ⟨rfl, by rw [hs.1]; rfl⟩)) q h hw
  · exact ck1 (c3 0 _ rfl) (Or.inr (Or.inr ⟨rfl, rfl⟩))
  · exact ck33 (c3 2 _ rfl) (c3 3 _ rfl) (by omega)
theorem WF_st {P : yP} {g : Nat} (hk : pK P) (hg : isF P g) : WF P g (szN P g + 2) 0 := by
  obtain ⟨k1, k2, k3, k4⟩ := hk.1 g hg
  have hs := av_s _ _ _ k4
  refine W_st (W := WF P g) hs (fun q h hq => Or.inl hq) (Or.inr (Or.inl ⟨rfl, by rw [hs.1]; rfl⟩))
/-- the chain of FRAMES on the stack -/
def mch (P : yP) (mem : Nat → Int32) : List (Nat × Nat × Nat × Nat) → Nat → Nat → Prop
  | [], fp, g => fp = P.2.1 + 2 ∧ npF P g = 0 ∧ mem P.2.1 = 3 ∧ mem (P.2.1 + 1) = 0
  | (b, g', h, ret) :: L, fp, g => isF P g' ∧ WF P g' ret (h + 1) ∧ fp = b + P.2.2.2.2 g' + h + npF P g + 2 ∧ mem (b + P.2.2.2.2 g' + h + npF P g) = nI ret ∧ mem (b + P.2.2.2.2 g' + h + npF P g + 1) = nI b ∧ mch P mem L b g'
theorem mch_lo {P : yP} {mem : Nat → Int32} : ∀ (L : List (Nat × Nat × Nat × Nat)) (fp g : Nat), mch P mem L fp g → P.2.1 + 2 + npF P g ≤ fp := by
  intro L
  induction L with
  | nil => intro fp g h; have := h.1; have := h.2.1; omega
  | cons a L ih =>
    obtain ⟨b, g', h, ret⟩ := a
    intro fp g hm
    have := ih b g' hm.2.2.2.2.2
    have := hm.2.2.1
    omega
theorem mch_c {P : yP} {mem mem' : Nat → Int32} : ∀ (L : List (Nat × Nat × Nat × Nat)) (fp g : Nat), mch P mem L fp g → (∀ a, P.2.1 ≤ a → a < fp → ¬ (fp ≤ a + 2 + npF P g ∧ a + 2 < fp) → mem' a = mem a) → mch P mem' L fp g := by
  intro L
  induction L with
  | nil =>
    intro fp g h hm
    obtain ⟨h1, h2, h3, h4⟩ := h
    exact ⟨h1, h2, by rw [hm _ (by omega) (by omega) (by omega)]; exact h3, by rw [hm _ (by omega) (by omega) (by omega)]; exact h4⟩
  | cons a L ih =>
    obtain ⟨b, g', h, ret⟩ := a
    intro fp g h hm
    obtain ⟨h1, h2, h3, h4, h5, h6⟩ := h
    have := mch_lo L b g' h6
    refine ⟨h1, h2, h3, ?_, ?_, ih b g' h6 (fun a a1 a2 a3 => hm a a1 (by omega) (by omega))⟩
    · rw [hm _ (by omega) (by omega) (by omega)]; exact h4
    · rw [hm _ (by omega) (by omega) (by omega)]; exact h5
/-- a state of the machine that goes on -/
def MSt (P : yP) (mem : Nat → Int32) (pc sp fp : Nat) : Prop := (pc = 0 ∧ sp = P.2.1 ∧ fp = 0) ∨ (pc = 3 ∧ sp = P.2.1 + 1 ∧ fp = 0) ∨ (∃ g L, isF P g ∧ mch P mem L fp g ∧ ((pc = szN P g ∧ sp = fp) ∨ ∃ h, WF P g pc h ∧ sp = fp + P.2.2.2.2 g + h))
