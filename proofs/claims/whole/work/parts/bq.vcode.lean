/-! THE MACHINE: where instructions begin, and how many values lie there -/
abbrev yAv : Type := (Bool × Nat) × Nat × (Nat → Nat → Nat → Nat → Prop)
def avN (k : Nat) (v w : Int) (A B C : yAv) : yAv := (glN k v w A.1 B.1 C.1, (if k < 20 then 1 else 0), fun p h q g =>
  if k = 1 ∨ k = 2 ∨ k = 3 ∨ k = 10 then q = p ∧ g = h
  else if k = 4 ∨ k = 5 ∨ k = 9 ∨ k = 24 ∨ k = 25 ∨ k = 26 ∨ k = 27 ∨ k = 29 then A.2.2 p h q g ∨ (q = p + A.1.2 ∧ g = h + A.2.1)
  else if k = 6 ∨ k = 28 then A.2.2 p h q g ∨ B.2.2 (p + A.1.2) (h + 1) q g ∨ (q = p + A.1.2 + B.1.2 ∧ g = h + 2)
  else if k = 7 then A.2.2 p h q g ∨ (q = p + A.1.2 ∧ g = h + 1) ∨ B.2.2 (p + A.1.2 + 2) h q g ∨ (q = p + A.1.2 + 2 + B.1.2 ∧ g = h + 1) ∨ (q = p + A.1.2 + 2 + B.1.2 + 2 ∧ g = h) ∨ (q = p + A.1.2 + 2 + B.1.2 + 4 ∧ g = h + 1) ∨ (q = p + A.1.2 + 2 + B.1.2 + 6 ∧ g = h)
  else if k = 8 then A.2.2 p h q g ∨ (q = p + A.1.2 ∧ g = h + 1) ∨ (q = p + A.1.2 + 2 ∧ g = h) ∨ (q = p + A.1.2 + 4 ∧ g = h + 1) ∨ B.2.2 (p + A.1.2 + 6) h q g ∨ (q = p + A.1.2 + 6 + B.1.2 ∧ g = h + 1) ∨ (q = p + A.1.2 + 6 + B.1.2 + 2 ∧ g = h) ∨ (q = p + A.1.2 + 6 + B.1.2 + 4 ∧ g = h + 1) ∨ (q = p + A.1.2 + 6 + B.1.2 + 6 ∧ g = h)
  else if k = 20 then A.2.2 p h q g
  else if k = 21 then (if A.1.1 = true then A.2.2 p h q g ∨ (q = p + A.1.2 ∧ g = h + 1) else (q = p ∧ g = h) ∨ (q = p + 2 ∧ g = h + 1))
  else if k = 22 then A.2.2 p h q g ∨ (q = p + A.1.2 ∧ g = h + 1) ∨ B.2.2 (p + A.1.2 + 2) h q g ∨ (C.1.1 = true ∧ ((q = p + A.1.2 + 2 + B.1.2 ∧ g = h) ∨ C.2.2 (p + A.1.2 + 2 + B.1.2 + 2) h q g))
  else if k = 23 then A.2.2 p h q g ∨ (q = p + A.1.2 ∧ g = h + 1) ∨ B.2.2 (p + A.1.2 + 2) h q g ∨ (q = p + A.1.2 + 2 + B.1.2 ∧ g = h)
  else False)
def avC (t r : yAv) : yAv := ((true, t.1.2 + r.1.2), t.2.1 + r.2.1, fun p h q g => t.2.2 p h q g ∨ r.2.2 (p + t.1.2) (h + t.2.1) q g)
def av : fT → yAv := ff ((false, 0), 0, fun _ _ _ _ => False) avN avC
theorem av_N {k : Nat} {v w : Int} {A B C : fT} : av (fN k v w A B C) = avN k v w (av A) (av B) (av C) := ff_N _ _ _ _ _ _ _ _ _
theorem av_C {t r : fT} : av (fC t r) = avC (av t) (av r) := ff_C _ _ _ _ _
theorem av_isZ {t : fT} (h : isZ t) : av t = ((false, 0), 0, fun _ _ _ _ => False) := h _ _ _ _
theorem av_gl : ∀ t, (av t).1 = gl t := by
  apply ff_ind
  · intro t h; rw [av_isZ h, gl_isZ h]
  · intro k v w A B C hA hB hC
    rw [av_N, gl_N, ← hA, ← hB, ← hC]
    rfl
  · intro t r ht hr
    rw [av_C, gl_C, ← ht, ← hr]
    rfl
/-- the kinds of an E -/
theorem wE_c {G : gE} {gs np K k m : Nat} {v w : Int} {A B C : fT} (h : wf G gs np K (fN k v w A B C) 0 m) : k = 1 ∨ k = 10 ∨ (k = 2 ∧ 0 ≤ v ∧ v < gs) ∨ (k = 3 ∧ plOk np K v) ∨ (k = 4 ∧ wf G gs np K A 0 0 ∧ 0 ≤ v ∧ 1 ≤ w ∧ v + w ≤ gs) ∨ (k = 5 ∧ wf G gs np K A 0 0 ∧ 24 ≤ v ∧ v ≤ 26) ∨ (k = 6 ∧ wf G gs np K A 0 0 ∧ wf G gs np K B 0 0 ∧ ((10 ≤ v ∧ v ≤ 23) ∨ v = 27 ∨ v = 28)) ∨ ((k = 7 ∨ k = 8) ∧ wf G gs np K A 0 0 ∧ wf G gs np K B 0 0) ∨ (k = 9 ∧ 0 ≤ v ∧ 0 ≤ w ∧ w ≤ 8 ∧ wf G gs np K A 3 w.toNat ∧ v.toNat < G.2.2.2.2 ∧ G.2.1 v.toNat = 2 ∧ G.2.2.2.1 v.toNat = nI w.toNat) := by
  rw [wf_N] at h
  unfold wfN at h
  rw [if_pos rfl] at h
  by_cases c1 : k = 1 ∨ k = 10
  · omega
  rw [if_neg c1] at h
  by_cases c2 : k = 2
  · rw [if_pos c2] at h; exact Or.inr (Or.inr (Or.inl ⟨c2, h⟩))
  rw [if_neg c2] at h
  by_cases c3 : k = 3
  · rw [if_pos c3] at h; exact Or.inr (Or.inr (Or.inr (Or.inl ⟨c3, h⟩)))
  rw [if_neg c3] at h
  by_cases c4 : k = 4
  · rw [if_pos c4] at h; exact Or.inr (Or.inr (Or.inr (Or.inr (Or.inl ⟨c4, h⟩))))
  rw [if_neg c4] at h
  by_cases c5 : k = 5
  · rw [if_pos c5] at h; exact Or.inr (Or.inr (Or.inr (Or.inr (Or.inr (Or.inl ⟨c5, h⟩)))))
  rw [if_neg c5] at h
  by_cases c6 : k = 6
  · rw [if_pos c6] at h; exact Or.inr (Or.inr (Or.inr (Or.inr (Or.inr (Or.inr (Or.inl ⟨c6, h⟩))))))
  rw [if_neg c6] at h
  by_cases c7 : k = 7 ∨ k = 8
  · rw [if_pos c7] at h; exact Or.inr (Or.inr (Or.inr (Or.inr (Or.inr (Or.inr (Or.inr (Or.inl ⟨c7, h⟩)))))))
  rw [if_neg c7] at h
  by_cases c9 : k = 9
  · rw [if_pos c9] at h; exact Or.inr (Or.inr (Or.inr (Or.inr (Or.inr (Or.inr (Or.inr (Or.inr ⟨c9, h⟩)))))))
  rw [if_neg c9] at h
  exact h.elim
/-- the kinds of an S -/
theorem wS_c {G : gE} {gs np K k m : Nat} {v w : Int} {A B C : fT} (h : wf G gs np K (fN k v w A B C) 1 m) : (k = 20 ∧ wf G gs np K A 2 0) ∨ (k = 21 ∧ (wf G gs np K A 4 0 ∨ wf G gs np K A 0 0) ∧ 0 ≤ v ∧ v < K) ∨ (k = 22 ∧ wf G gs np K A 0 0 ∧ wf G gs np K B 1 0 ∧ (wf G gs np K C 4 0 ∨ wf G gs np K C 1 0)) ∨ (k = 23 ∧ wf G gs np K A 0 0 ∧ wf G gs np K B 1 0) ∨ ((k = 24 ∨ k = 25 ∨ k = 29) ∧ wf G gs np K A 0 0) ∨ (k = 26 ∧ wf G gs np K A 0 0 ∧ 0 ≤ v ∧ v < gs) ∨ (k = 27 ∧ wf G gs np K A 0 0 ∧ plOk np K v) ∨ (k = 28 ∧ wf G gs np K A 0 0 ∧ wf G gs np K B 0 0 ∧ 0 ≤ v ∧ 1 ≤ w ∧ v + w ≤ gs) ∨ k = 30 := by
  rw [wf_N] at h
  unfold wfN at h
  rw [if_neg (by decide), if_pos rfl] at h
  by_cases c1 : k = 20
  · rw [if_pos c1] at h; exact Or.inl ⟨c1, h⟩
  rw [if_neg c1] at h
  by_cases c2 : k = 21
  · rw [if_pos c2] at h; exact Or.inr (Or.inl ⟨c2, h⟩)
  rw [if_neg c2] at h
  by_cases c3 : k = 22
  · rw [if_pos c3] at h; exact Or.inr (Or.inr (Or.inl ⟨c3, h⟩))
  rw [if_neg c3] at h
  by_cases c4 : k = 23
  · rw [if_pos c4] at h; exact Or.inr (Or.inr (Or.inr (Or.inl ⟨c4, h⟩)))
  rw [if_neg c4] at h
  by_cases c5 : k = 24 ∨ k = 25 ∨ k = 29
  · rw [if_pos c5] at h; exact Or.inr (Or.inr (Or.inr (Or.inr (Or.inl ⟨c5, h⟩))))
  rw [if_neg c5] at h
  by_cases c6 : k = 26
  · rw [if_pos c6] at h; exact Or.inr (Or.inr (Or.inr (Or.inr (Or.inr (Or.inl ⟨c6, h⟩)))))
  rw [if_neg c6] at h
  by_cases c7 : k = 27
  · rw [if_pos c7] at h; exact Or.inr (Or.inr (Or.inr (Or.inr (Or.inr (Or.inr (Or.inl ⟨c7, h⟩))))))
  rw [if_neg c7] at h
  by_cases c9 : k = 28
  · rw [if_pos c9] at h; exact Or.inr (Or.inr (Or.inr (Or.inr (Or.inr (Or.inr (Or.inr (Or.inl ⟨c9, h⟩)))))))
  rw [if_neg c9] at h
  exact Or.inr (Or.inr (Or.inr (Or.inr (Or.inr (Or.inr (Or.inr (Or.inr h)))))))
theorem wL_c {G : gE} {gs np K m : Nat} {t r : fT} (h : wf G gs np K (fC t r) 3 m) : ∃ j, m = j + 1 ∧ wf G gs np K t 0 0 ∧ wf G gs np K r 3 j := by
  rw [wf_C] at h
  unfold wfC at h
  rw [if_neg (by decide), if_pos rfl] at h
  exact h
theorem wB_c {G : gE} {gs np K m : Nat} {t r : fT} (h : wf G gs np K (fC t r) 2 m) : wf G gs np K t 1 0 ∧ wf G gs np K r 2 0 := by
  rw [wf_C] at h
  unfold wfC at h
  rw [if_pos rfl] at h
  exact h
theorem wf_r {G : gE} {gs np K r m : Nat} {t : fT} (h : wf G gs np K t r m) : r ≤ 4 := by
  revert h
  revert r m
  revert t
  apply ff_ind
  · intro t hz r m h
    rw [wf_isZ hz] at h
    unfold wfZ at h
    omega
  · intro k v w A B C _ _ _ r m h
    rw [wf_N] at h
    unfold wfN at h
    by_cases c : r = 0
    · omega
    rw [if_neg c] at h
    by_cases c1 : r = 1
    · omega
    rw [if_neg c1] at h
    exact h.elim
  · intro t s _ _ r m h
    rw [wf_C] at h
    unfold wfC at h
    by_cases c : r = 2
    · omega
    rw [if_neg c] at h
    by_cases c1 : r = 3
    · omega
    rw [if_neg c1] at h
    exact h.elim
theorem wf_4 {G : gE} {gs np K m : Nat} : ∀ t, wf G gs np K t 4 m → isZ t := by
  apply ff_ind
  · intro t hz _; exact hz
  · intro k v w A B C _ _ _ h
    rw [wf_N] at h
    exact h.elim
  · intro t s _ _ h
    rw [wf_C] at h
    exact h.elim
/-- how many values a tree gives, and that its first instruction is its first cell -/
def avS (t : fT) (r m : Nat) : Prop := (av t).2.1 = (if r = 0 then 1 else if r = 3 then m else 0) ∧ ∀ p h, (av t).2.2 p h p h ∨ (r ≠ 0 ∧ (gl t).2 = 0 ∧ (r = 3 → m = 0))
theorem av_s {G : gE} {gs np K : Nat} : ∀ t r m, wf G gs np K t r m → avS t r m := by
  apply ff_ind
  · intro t hz r m h
    rw [wf_isZ hz] at h
    unfold wfZ at h
    unfold avS
    rw [av_isZ hz, gl_isZ hz]
    refine ⟨?_, fun p h => Or.inr ⟨by omega, rfl, by omega⟩⟩
    rcases h with h | h | h
    · rw [if_neg (by omega), if_neg (by omega)]
    · rw [if_neg (by omega), if_pos h.1, h.2]
    · rw [if_neg (by omega), if_neg (by omega)]
  · intro k v w A B C hA hB hC r m h
    have hr : r = 0 ∨ r = 1 := by
      rw [wf_N] at h
      unfold wfN at h
      by_cases c : r = 0
      · exact Or.inl c
      rw [if_neg c] at h
      by_cases c1 : r = 1
      · exact Or.inr c1
      rw [if_neg c1] at h
      exact h.elim
    have fromA : ∀ (P : Prop) p h, wf G gs np K A 0 0 → ((av A).2.2 p h p h → P) → P := by
      intro P p h hw hp
      rcases (hA 0 0 hw).2 p h with a | a
      · exact hp a
      · exact absurd rfl a.1
    rcases hr with e | e
    · subst e
      have hk : k < 20 := by have := wE_c h; omega
      unfold avS
      rw [av_N]
      refine ⟨if_pos hk, fun p g => Or.inl ?_⟩
      rcases wE_c h with c | c | c | c | c | c | c | c | c
      · subst c; exact ⟨rfl, rfl⟩
      · subst c; exact ⟨rfl, rfl⟩
      · obtain ⟨rfl, -⟩ := c; exact ⟨rfl, rfl⟩
      · obtain ⟨rfl, -⟩ := c; exact ⟨rfl, rfl⟩
      · obtain ⟨rfl, c, -⟩ := c; exact fromA _ p g c Or.inl
      · obtain ⟨rfl, c, -⟩ := c; exact fromA _ p g c Or.inl
      · obtain ⟨rfl, c, -⟩ := c; exact fromA _ p g c Or.inl
      · obtain ⟨e | e, c, -⟩ := c
        · subst e; exact fromA _ p g c Or.inl
        · subst e; exact fromA _ p g c Or.inl
      · obtain ⟨rfl, -, -, -, c, -⟩ := c
        have hd := (hA _ _ c).1
        show (av A).2.2 p g p g ∨ (p = p + (av A).1.2 ∧ g = g + (av A).2.1)
        rcases (hA _ _ c).2 p g with a | ⟨-, a, b⟩
        · exact Or.inl a
        · right
          rw [hd, if_neg (by decide), if_pos rfl, b rfl, av_gl, a]
          exact ⟨rfl, rfl⟩
    · subst e
      have hk : ¬ k < 20 := by have := wS_c h; omega
      unfold avS
      rw [av_N]
      refine ⟨(if_neg hk).trans (by rw [if_neg (by decide), if_neg (by decide)]), fun p g => ?_⟩
      rcases wS_c h with c | c | c | c | c | c | c | c | c
      · obtain ⟨rfl, c⟩ := c
        rcases (hA _ _ c).2 p g with a | ⟨-, a, b⟩
        · exact Or.inl a
        · right
          rw [gl_N]
          exact ⟨by decide, a, fun e => absurd e (by decide)⟩
      · obtain ⟨rfl, c, -⟩ := c
        left
        show (if (av A).1.1 = true then (av A).2.2 p g p g ∨ _ else (p = p ∧ g = g) ∨ _)
        rcases c with c | c
        · rw [av_isZ (wf_4 A c), if_neg (by decide)]; exact Or.inl ⟨rfl, rfl⟩
        · obtain ⟨a, b, d, e, f, i, rfl⟩ := wf_isN c (Or.inl rfl)
          rw [if_pos (by rw [av_gl, gl_N]; rfl)]
          exact fromA _ p g c Or.inl
      · obtain ⟨rfl, c, -⟩ := c; exact Or.inl (fromA _ p g c Or.inl)
      · obtain ⟨rfl, c, -⟩ := c; exact Or.inl (fromA _ p g c Or.inl)
      · obtain ⟨e | e | e, c⟩ := c
        · subst e; exact Or.inl (fromA _ p g c Or.inl)
        · subst e; exact Or.inl (fromA _ p g c Or.inl)
        · subst e; exact Or.inl (fromA _ p g c Or.inl)
      · obtain ⟨rfl, c, -⟩ := c; exact Or.inl (fromA _ p g c Or.inl)
      · obtain ⟨rfl, c, -⟩ := c; exact Or.inl (fromA _ p g c Or.inl)
      · obtain ⟨rfl, c, -⟩ := c; exact Or.inl (fromA _ p g c Or.inl)
      · subst c
        right
        rw [gl_N]
        exact ⟨by decide, rfl, fun e => absurd e (by decide)⟩
  · intro t s ht hs r m h
    have hr : r = 2 ∨ r = 3 := by
      rw [wf_C] at h
      unfold wfC at h
      by_cases c : r = 2
      · exact Or.inl c
      rw [if_neg c] at h
      by_cases c1 : r = 3
      · exact Or.inr c1
      rw [if_neg c1] at h
      exact h.elim
    unfold avS
    rw [av_C, gl_C]
    rcases hr with e | e
    · subst e
      obtain ⟨h1, h2⟩ := wB_c h
      have t1 := ht _ _ h1
      have s1 := hs _ _ h2
      refine ⟨?_, fun p g => ?_⟩
      · show (av t).2.1 + (av s).2.1 = _
        rw [t1.1, s1.1]
        rfl
      · show ((av t).2.2 p g p g ∨ (av s).2.2 (p + (av t).1.2) (g + (av t).2.1) p g) ∨ _
        rcases t1.2 p g with a | ⟨-, a, -⟩
        · exact Or.inl (Or.inl a)
        · rcases s1.2 p g with b | ⟨-, b, -⟩
          · left; right
            rw [av_gl, a, t1.1]
            exact b
          · right
            exact ⟨by decide, by show (gl t).2 + (gl s).2 = 0; omega, fun e => absurd e (by decide)⟩
    · subst e
      obtain ⟨j, rfl, h1, h2⟩ := wL_c h
      have t1 := ht _ _ h1
      have s1 := hs _ _ h2
      refine ⟨?_, fun p g => Or.inl (Or.inl ?_)⟩
      · show (av t).2.1 + (av s).2.1 = _
        rw [t1.1, s1.1]
        show 1 + j = j + 1
        omega
      · rcases t1.2 p g with a | a
        · exact a
        · exact absurd rfl a.1
