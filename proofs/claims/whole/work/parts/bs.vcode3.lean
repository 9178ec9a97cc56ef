/-! THE MACHINE: S, lists, FUNCTIONS -/
section
variable {C : Nat → Int32} {G : gE} {gs np K : Nat} {st : Nat → Int32} {W : Nat → Nat → Prop}
theorem ck_S {k : Nat} {v w : Int} {A B D : fT} {m p h : Nat} (hw : wf G gs np K (fN k v w A B D) 1 m) (hA : ∀ r m p h, wf G gs np K A r m → ckT C G gs np K st W A p h) (hB : ∀ r m p h, wf G gs np K B r m → ckT C G gs np K st W B p h) (hD : ∀ r m p h, wf G gs np K D r m → ckT C G gs np K st W D p h) : ckT C G gs np K st W (fN k v w A B D) p h := by
  have lA := (gn_len st (nI np) A).2
  have lB := (gn_len st (nI np) B).2
  have lD := (gn_len st (nI np) D).2
  have gA : (av A).1.2 = (gl A).2 := by rw [av_gl]
  have gB : (av B).1.2 = (gl B).2 := by rw [av_gl]
  have hk : ¬ k < 20 := by have := wS_c hw; omega
  have hd : (av (fN k v w A B D)).2.1 = 0 := by rw [av_N]; exact if_neg hk
  intro hc hs he
  rw [hd, Nat.add_zero] at he
  -- an E, then one instruction
  have one : ∀ (l : List Int32), wf G gs np K A 0 0 → (gn st (nI np) (fN k v w A B D)).2 p = (gn st (nI np) A).2 p ++ l → (gl (fN k v w A B D)).2 = (gl A).2 + l.length → (∀ q g, (av (fN k v w A B D)).2.2 p h q g ↔ ((av A).2.2 p h q g ∨ (q = p + (gl A).2 ∧ g = h + 1))) → (cw C (p + (gl A).2) l → W (p + (gl A).2 + l.length) h → ck C G gs np K st W (p + (gl A).2) (h + 1)) → ∀ q g, (av (fN k v w A B D)).2.2 p h q g → ck C G gs np K st W q g := by
    intro l c1 hg hl ha hi
    have dA : (av A).2.1 = 1 := (av_s A 0 0 c1).1
    rw [hg] at hc
    rw [hl] at he
    obtain ⟨k1, k2⟩ := cw_app hc
    rw [lA] at k2
    have hI := hA 0 0 p h c1 k1 (fun q g hq => hs q g ((ha q g).mpr (Or.inl hq))) (hs _ _ ((ha _ _).mpr (Or.inr ⟨rfl, by rw [dA]⟩)))
    intro q g hq
    rcases (ha q g).mp hq with hq | ⟨rfl, rfl⟩
    · exact hI q g hq
    · exact hi k2 (by rw [show p + (gl A).2 + l.length = p + ((gl A).2 + l.length) by omega]; exact he)
  have at1 : (k = 24 ∨ k = 25 ∨ k = 26 ∨ k = 27 ∨ k = 29) → wf G gs np K A 0 0 → ∀ q g, (av (fN k v w A B D)).2.2 p h q g ↔ ((av A).2.2 p h q g ∨ (q = p + (gl A).2 ∧ g = h + 1)) := by
    intro hk c1 q g
    have dA : (av A).2.1 = 1 := (av_s A 0 0 c1).1
    rw [av_N, ← gA, ← dA]
    rcases hk with e | e | e | e | e <;> subst e <;> exact Iff.rfl
  rcases wS_c hw with c | c | c | c | c | c | c | c | c
  · obtain ⟨rfl, c1⟩ := c
    have hg : (gn st (nI np) (fN 20 v w A B D)).2 p = (gn st (nI np) A).2 p := by rw [gn_N]; rfl
    have hl : (gl (fN 20 v w A B D)).2 = (gl A).2 := by rw [gl_N]; rfl
    have ha : ∀ q g, (av (fN 20 v w A B D)).2.2 p h q g ↔ (av A).2.2 p h q g := fun q g => by rw [av_N]; exact Iff.rfl
    have dA : (av A).2.1 = 0 := (av_s A 2 0 c1).1
    rw [hg] at hc
    rw [hl] at he
    have hI := hA 2 0 p h c1 hc (fun q g hq => hs q g ((ha q g).mpr hq)) (by rw [dA]; exact he)
    exact fun q g hq => hI q g ((ha q g).mp hq)
  · obtain ⟨rfl, c1, c2, c3⟩ := c
    have hpl : plOk np K v := Or.inl ⟨c2, c3⟩
    rcases c1 with c1 | c1
    · have hz := wf_4 A c1
      have hg : (gn st (nI np) (fN 21 v w A B D)).2 p = [1, 0, 5, Int32.ofInt v] := by rw [gn_N, gn_isZ hz]; rfl
      have hl : (gl (fN 21 v w A B D)).2 = 4 := by rw [gl_N, gl_isZ hz]; rfl
      have ha : ∀ q g, (av (fN 21 v w A B D)).2.2 p h q g ↔ ((q = p ∧ g = h) ∨ (q = p + 2 ∧ g = h + 1)) := fun q g => by rw [av_N, av_isZ hz]; exact Iff.rfl
      rw [hg] at hc
      rw [hl] at he
      intro q g hq
      have s1 : W (p + 2) (h + 1) := hs _ _ ((ha _ _).mpr (Or.inr ⟨rfl, rfl⟩))
      rcases (ha q g).mp hq with ⟨rfl, rfl⟩ | ⟨rfl, rfl⟩
      · exact ck1 (hc 0 _ rfl) s1
      · exact ck5 (hc 2 _ rfl) ⟨v, hpl, hc 3 _ rfl⟩ (by omega) he
    · have hb : (gl A).1 = true := by
        obtain ⟨a, b, d, e, f, i, rfl⟩ := wf_isN c1 (Or.inl rfl)
        rw [gl_N]; rfl
      refine one [5, Int32.ofInt v] c1 ?_ ?_ ?_ ?_
      · rw [gn_N]
        show (if (gn st (nI np) A).1 = true then (gn st (nI np) A).2 p else [1, 0]) ++ [5, Int32.ofInt v] = _
        rw [(gn_len st (nI np) A).1, if_pos hb]
      · rw [gl_N]
        show (if (gl A).1 = true then (gl A).2 else 2) + 2 = _
        rw [if_pos hb]
        rfl
      · intro q g
        rw [av_N]
        show (if (av A).1.1 = true then (av A).2.2 p h q g ∨ (q = p + (av A).1.2 ∧ g = h + 1) else _) ↔ _
        rw [av_gl, if_pos hb]
      · intro k2 e2
        exact ck5 (k2 0 _ rfl) ⟨v, hpl, k2 1 _ rfl⟩ (by omega) e2
  · obtain ⟨rfl, c1, c2, c3⟩ := c
    have dA : (av A).2.1 = 1 := (av_s A 0 0 c1).1
    have dB : (av B).2.1 = 0 := (av_s B 1 0 c2).1
    obtain ⟨z, hz⟩ : ∃ z, z = p + (gl A).2 := ⟨_, rfl⟩
    obtain ⟨y, hy⟩ : ∃ y, y = z + 2 + (gl B).2 := ⟨_, rfl⟩
    rcases c3 with c3 | c3
    · have hzD := wf_4 D c3
      have hg : (gn st (nI np) (fN 22 v w A B D)).2 p = (gn st (nI np) A).2 p ++ ([31, nI y] ++ (gn st (nI np) B).2 (z + 2)) := by rw [gn_N, gn_isZ hzD, hy, hz, ← lA p, ← lB (p + ((gn st (nI np) A).2 p).length + 2)]; rfl
      have hl : (gl (fN 22 v w A B D)).2 = (gl A).2 + (2 + (gl B).2) := by rw [gl_N, gl_isZ hzD]; rfl
      have ha : ∀ q g, (av (fN 22 v w A B D)).2.2 p h q g ↔ ((av A).2.2 p h q g ∨ (q = z ∧ g = h + 1) ∨ (av B).2.2 (z + 2) h q g) := fun q g => by
        rw [av_N, hz, ← gA]
        show ((av A).2.2 p h q g ∨ (q = p + (av A).1.2 ∧ g = h + 1) ∨ (av B).2.2 (p + (av A).1.2 + 2) h q g ∨ ((av D).1.1 = true ∧ _)) ↔ _
        rw [av_isZ hzD]
        constructor
        · rintro (a | a | a | a)
          · exact Or.inl a
          · exact Or.inr (Or.inl a)
          · exact Or.inr (Or.inr a)
          · exact absurd a.1 (by decide)
        · rintro (a | a | a)
          · exact Or.inl a
          · exact Or.inr (Or.inl a)
          · exact Or.inr (Or.inr (Or.inl a))
      rw [hg] at hc
      rw [hl, show p + ((gl A).2 + (2 + (gl B).2)) = y by omega] at he
      obtain ⟨k1, k2⟩ := cw_app hc
      rw [lA, ← hz] at k2
      obtain ⟨k2, k3⟩ := cw_app k2
      rw [show z + [31, nI y].length = z + 2 from rfl] at k3
      have sB : ∀ q g, (av B).2.2 (z + 2) h q g → W q g := fun q g hq => hs q g ((ha q g).mpr (Or.inr (Or.inr hq)))
      have eB : W (z + 2 + (gl B).2) (h + (av B).2.1) := by rw [dB, ← hy]; exact he
      have hI := hA 0 0 p h c1 k1 (fun q g hq => hs q g ((ha q g).mpr (Or.inl hq))) (by rw [dA, ← hz]; exact hs _ _ ((ha _ _).mpr (Or.inr (Or.inl ⟨rfl, rfl⟩))))
      have hJ := hB 1 0 (z + 2) h c2 k3 sB eB
      intro q g hq
      rcases (ha q g).mp hq with hq | ⟨rfl, rfl⟩ | hq
      · exact hI q g hq
      · exact ck31 (k2 0 _ rfl) (by omega) (k2 1 _ rfl) he (W_st (av_s B 1 0 c2) sB eB)
      · exact hJ q g hq
    · have hb : (gl D).1 = true := by
        obtain ⟨a, b, d, e, f, i, rfl⟩ := wf_isN c3 (Or.inr rfl)
        rw [gl_N]; rfl
      have dD : (av D).2.1 = 0 := (av_s D 1 0 c3).1
      have hg : (gn st (nI np) (fN 22 v w A B D)).2 p = (gn st (nI np) A).2 p ++ ([31, nI (y + 2)] ++ ((gn st (nI np) B).2 (z + 2) ++ ([30, nI (y + 2 + (gl D).2)] ++ (gn st (nI np) D).2 (y + 2)))) := by
        rw [gn_N]
        have e1 : (gn st (nI np) D).1 = true := (gn_len st (nI np) D).1.trans hb
        show (if (gn st (nI np) D).1 = true then _ else _) = _
        rw [if_pos e1]
        show (gn st (nI np) A).2 p ++ ([31, nI (p + ((gn st (nI np) A).2 p).length + 2 + ((gn st (nI np) B).2 (p + ((gn st (nI np) A).2 p).length + 2)).length + 2)] ++ ((gn st (nI np) B).2 (p + ((gn st (nI np) A).2 p).length + 2) ++ ([30, nI (p + ((gn st (nI np) A).2 p).length + 2 + ((gn st (nI np) B).2 (p + ((gn st (nI np) A).2 p).length + 2)).length + 2 + ((gn st (nI np) D).2 (p + ((gn st (nI np) A).2 p).length + 2 + ((gn st (nI np) B).2 (p + ((gn st (nI np) A).2 p).length + 2)).length + 2)).length)] ++ (gn st (nI np) D).2 (p + ((gn st (nI np) A).2 p).length + 2 + ((gn st (nI np) B).2 (p + ((gn st (nI np) A).2 p).length + 2)).length + 2)))) = _
        rw [lA, ← hz, lB, ← hy, lD]
      have hl : (gl (fN 22 v w A B D)).2 = (gl A).2 + (2 + ((gl B).2 + (2 + (gl D).2))) := by
        rw [gl_N]
        show (if (gl D).1 = true then _ else _) = _
        rw [if_pos hb]
      have ha : ∀ q g, (av (fN 22 v w A B D)).2.2 p h q g ↔ ((av A).2.2 p h q g ∨ (q = z ∧ g = h + 1) ∨ (av B).2.2 (z + 2) h q g ∨ (q = y ∧ g = h) ∨ (av D).2.2 (y + 2) h q g) := fun q g => by
        rw [av_N, hy, hz, ← gA, ← gB]
        show ((av A).2.2 p h q g ∨ (q = p + (av A).1.2 ∧ g = h + 1) ∨ (av B).2.2 (p + (av A).1.2 + 2) h q g ∨ ((av D).1.1 = true ∧ ((q = p + (av A).1.2 + 2 + (av B).1.2 ∧ g = h) ∨ (av D).2.2 (p + (av A).1.2 + 2 + (av B).1.2 + 2) h q g))) ↔ _
        have hb2 : (av D).1.1 = true := by rw [av_gl]; exact hb
        constructor
        · rintro (a | a | a | a)
          · exact Or.inl a
          · exact Or.inr (Or.inl a)
          · exact Or.inr (Or.inr (Or.inl a))
          · exact Or.inr (Or.inr (Or.inr a.2))
        · rintro (a | a | a | a)
          · exact Or.inl a
          · exact Or.inr (Or.inl a)
          · exact Or.inr (Or.inr (Or.inl a))
          · exact Or.inr (Or.inr (Or.inr ⟨hb2, a⟩))
      rw [hg] at hc
      rw [hl, show p + ((gl A).2 + (2 + ((gl B).2 + (2 + (gl D).2)))) = y + 2 + (gl D).2 by omega] at he
      obtain ⟨k1, k2⟩ := cw_app hc
      rw [lA, ← hz] at k2
      obtain ⟨k2, k3⟩ := cw_app k2
      rw [show z + [31, nI (y + 2)].length = z + 2 from rfl] at k3
      obtain ⟨k3, k4⟩ := cw_app k3
      rw [lB, ← hy] at k4
      obtain ⟨k4, k5⟩ := cw_app k4
      rw [show y + [30, nI (y + 2 + (gl D).2)].length = y + 2 from rfl] at k5
      have sB : ∀ q g, (av B).2.2 (z + 2) h q g → W q g := fun q g hq => hs q g ((ha q g).mpr (Or.inr (Or.inr (Or.inl hq))))
      have s2 : W y h := hs _ _ ((ha _ _).mpr (Or.inr (Or.inr (Or.inr (Or.inl ⟨rfl, rfl⟩)))))
      have sD : ∀ q g, (av D).2.2 (y + 2) h q g → W q g := fun q g hq => hs q g ((ha q g).mpr (Or.inr (Or.inr (Or.inr (Or.inr hq)))))
      have eB : W (z + 2 + (gl B).2) (h + (av B).2.1) := by rw [dB, ← hy]; exact s2
      have eD : W (y + 2 + (gl D).2) (h + (av D).2.1) := by rw [dD]; exact he
      have hI := hA 0 0 p h c1 k1 (fun q g hq => hs q g ((ha q g).mpr (Or.inl hq))) (by rw [dA, ← hz]; exact hs _ _ ((ha _ _).mpr (Or.inr (Or.inl ⟨rfl, rfl⟩))))
      have hJ := hB 1 0 (z + 2) h c2 k3 sB eB
      have hK := hD 1 0 (y + 2) h c3 k5 sD eD
      intro q g hq
      rcases (ha q g).mp hq with hq | ⟨rfl, rfl⟩ | hq | ⟨rfl, rfl⟩ | hq
      · exact hI q g hq
      · exact ck31 (k2 0 _ rfl) (by omega) (k2 1 _ rfl) (W_st (av_s D 1 0 c3) sD eD) (W_st (av_s B 1 0 c2) sB eB)
      · exact hJ q g hq
      · exact ck30 (k4 0 _ rfl) (k4 1 _ rfl) he
      · exact hK q g hq
  · obtain ⟨rfl, c1, c2⟩ := c
    have dA : (av A).2.1 = 1 := (av_s A 0 0 c1).1
    have dB : (av B).2.1 = 0 := (av_s B 1 0 c2).1
    obtain ⟨z, hz⟩ : ∃ z, z = p + (gl A).2 := ⟨_, rfl⟩
    obtain ⟨y, hy⟩ : ∃ y, y = z + 2 + (gl B).2 := ⟨_, rfl⟩
    have hg : (gn st (nI np) (fN 23 v w A B D)).2 p = (gn st (nI np) A).2 p ++ ([31, nI (y + 2)] ++ ((gn st (nI np) B).2 (z + 2) ++ [30, nI p])) := by rw [gn_N, hy, hz, ← lA p, ← lB (p + ((gn st (nI np) A).2 p).length + 2)]; rfl
    have hl : (gl (fN 23 v w A B D)).2 = (gl A).2 + (2 + ((gl B).2 + 2)) := by rw [gl_N]; rfl
    have ha : ∀ q g, (av (fN 23 v w A B D)).2.2 p h q g ↔ ((av A).2.2 p h q g ∨ (q = z ∧ g = h + 1) ∨ (av B).2.2 (z + 2) h q g ∨ (q = y ∧ g = h)) := fun q g => by rw [av_N, hy, hz, ← gA, ← gB]; exact Iff.rfl
    rw [hg] at hc
    rw [hl, show p + ((gl A).2 + (2 + ((gl B).2 + 2))) = y + 2 by omega] at he
    obtain ⟨k1, k2⟩ := cw_app hc
    rw [lA, ← hz] at k2
    obtain ⟨k2, k3⟩ := cw_app k2
    rw [show z + [31, nI (y + 2)].length = z + 2 from rfl] at k3
    obtain ⟨k3, k4⟩ := cw_app k3
    rw [lB, ← hy] at k4
    have sA : ∀ q g, (av A).2.2 p h q g → W q g := fun q g hq => hs q g ((ha q g).mpr (Or.inl hq))
    have s1 : W z (h + 1) := hs _ _ ((ha _ _).mpr (Or.inr (Or.inl ⟨rfl, rfl⟩)))
    have sB : ∀ q g, (av B).2.2 (z + 2) h q g → W q g := fun q g hq => hs q g ((ha q g).mpr (Or.inr (Or.inr (Or.inl hq))))
    have s2 : W y h := hs _ _ ((ha _ _).mpr (Or.inr (Or.inr (Or.inr ⟨rfl, rfl⟩))))
    have eB : W (z + 2 + (gl B).2) (h + (av B).2.1) := by rw [dB, ← hy]; exact s2
    have eA : W (p + (gl A).2) (h + (av A).2.1) := by rw [dA, ← hz]; exact s1
    have hI := hA 0 0 p h c1 k1 sA eA
    have hJ := hB 1 0 (z + 2) h c2 k3 sB eB
    intro q g hq
    rcases (ha q g).mp hq with hq | ⟨rfl, rfl⟩ | hq | ⟨rfl, rfl⟩
    · exact hI q g hq
    · exact ck31 (k2 0 _ rfl) (by omega) (k2 1 _ rfl) he (W_st (av_s B 1 0 c2) sB eB)
    · exact hJ q g hq
    · exact ck30 (k4 0 _ rfl) (k4 1 _ rfl) (W_st (av_s A 0 0 c1) sA eA)
  · obtain ⟨e | e | e, c1⟩ := c
    · subst e
      exact one [33, nI np] c1 (by rw [gn_N]; rfl) (by rw [gl_N]; rfl) (at1 (by omega) c1) (fun k2 e2 => ck33 (k2 0 _ rfl) (k2 1 _ rfl) (by omega))
    · subst e
      exact one [34] c1 (by rw [gn_N]; rfl) (by rw [gl_N]; rfl) (at1 (by omega) c1) (fun k2 e2 => ck34 (k2 0 _ rfl) (by omega) e2)
    · subst e
      exact one [36] c1 (by rw [gn_N]; rfl) (by rw [gl_N]; rfl) (at1 (by omega) c1) (fun k2 e2 => ck36 (k2 0 _ rfl) (by omega) e2)
  · obtain ⟨rfl, c1, c2, c3⟩ := c
    exact one [3, Int32.ofInt v] c1 (by rw [gn_N]; rfl) (by rw [gl_N]; rfl) (at1 (by omega) c1) (fun k2 e2 => ck3 (k2 0 _ rfl) ⟨v.toNat, by omega, by rw [← ofInt_n c2]; exact k2 1 _ rfl⟩ (by omega) e2)
  · obtain ⟨rfl, c1, c2⟩ := c
    exact one [5, Int32.ofInt v] c1 (by rw [gn_N]; rfl) (by rw [gl_N]; rfl) (at1 (by omega) c1) (fun k2 e2 => ck5 (k2 0 _ rfl) ⟨v, c2, k2 1 _ rfl⟩ (by omega) e2)
  · obtain ⟨rfl, c1, c2, c3, c4, c5⟩ := c
    have dA : (av A).2.1 = 1 := (av_s A 0 0 c1).1
    have dB : (av B).2.1 = 1 := (av_s B 0 0 c2).1
    have hg : (gn st (nI np) (fN 28 v w A B D)).2 p = (gn st (nI np) A).2 p ++ ((gn st (nI np) B).2 (p + (gl A).2) ++ [7, Int32.ofInt v, Int32.ofInt w]) := by rw [gn_N, ← lA p]; rfl
    have hl : (gl (fN 28 v w A B D)).2 = (gl A).2 + ((gl B).2 + 3) := by rw [gl_N]; rfl
    have ha : ∀ q g, (av (fN 28 v w A B D)).2.2 p h q g ↔ ((av A).2.2 p h q g ∨ (av B).2.2 (p + (gl A).2) (h + 1) q g ∨ (q = p + (gl A).2 + (gl B).2 ∧ g = h + 2)) := fun q g => by rw [av_N, ← gA, ← gB]; exact Iff.rfl
    rw [hg] at hc
    rw [hl] at he
    obtain ⟨k1, k2⟩ := cw_app hc
    rw [lA] at k2
    obtain ⟨k2, k3⟩ := cw_app k2
    rw [lB] at k3
    have eB : W (p + (gl A).2 + (gl B).2) (h + 1 + (av B).2.1) := hs _ _ ((ha _ _).mpr (Or.inr (Or.inr ⟨rfl, by rw [dB]⟩)))
    have sB : ∀ q g, (av B).2.2 (p + (gl A).2) (h + 1) q g → W q g := fun q g hq => hs q g ((ha q g).mpr (Or.inr (Or.inl hq)))
    have hI := hA 0 0 p h c1 k1 (fun q g hq => hs q g ((ha q g).mpr (Or.inl hq))) (by rw [dA]; exact W_st (av_s B 0 0 c2) sB eB)
    have hJ := hB 0 0 (p + (gl A).2) (h + 1) c2 k2 sB eB
    intro q g hq
    rcases (ha q g).mp hq with hq | hq | ⟨rfl, rfl⟩
    · exact hI q g hq
    · exact hJ q g hq
    · exact ck7 (k3 0 _ rfl) ⟨v.toNat, w.toNat, by omega, by rw [← ofInt_n c3]; exact k3 1 _ rfl, by rw [← ofInt_n (show 0 ≤ w by omega)]; exact k3 2 _ rfl⟩ (by omega) (by rw [show p + (gl A).2 + (gl B).2 + 3 = p + ((gl A).2 + ((gl B).2 + 3)) by omega]; exact he)
  · subst c
    intro q g hq
    rw [av_N] at hq
    exact absurd hq id
theorem ck_t : ∀ t r m, wf G gs np K t r m → ∀ p h, ckT C G gs np K st W t p h := by
  apply ff_ind
  · intro t hz r m _ p h _ _ _ q g hq
    rw [av_isZ hz] at hq
    exact hq.elim
  · intro k v w A B D hA hB hD r m hw p h
    have hr : r = 0 ∨ r = 1 := by
      have h := hw
      rw [wf_N] at h
      unfold wfN at h
      by_cases c : r = 0
      · exact Or.inl c
      rw [if_neg c] at h
      by_cases c1 : r = 1
      · exact Or.inr c1
      rw [if_neg c1] at h
      exact h.elim
    rcases hr with e | e
    · subst e
      exact ck_E hw (fun r m p h a => hA r m a p h) (fun r m p h a => hB r m a p h)
    · subst e
      exact ck_S hw (fun r m p h a => hA r m a p h) (fun r m p h a => hB r m a p h) (fun r m p h a => hD r m a p h)
  · intro t s ht hs r m hw p h hc hsub he
    have hr : r = 2 ∨ r = 3 := by
      have h := hw
      rw [wf_C] at h
      unfold wfC at h
      by_cases c : r = 2
      · exact Or.inl c
      rw [if_neg c] at h
      by_cases c1 : r = 3
      · exact Or.inr c1
      rw [if_neg c1] at h
      exact h.elim
    obtain ⟨r1, m1, r2, m2, h1, h2⟩ : ∃ r1 m1 r2 m2, wf G gs np K t r1 m1 ∧ wf G gs np K s r2 m2 := by
      rcases hr with e | e
      · subst e
        exact ⟨_, _, _, _, wB_c hw⟩
      · subst e
        obtain ⟨j, -, a, b⟩ := wL_c hw
        exact ⟨_, _, _, _, a, b⟩
    have gt : (av t).1.2 = (gl t).2 := by rw [av_gl]
    have ha : ∀ q g, (av (fC t s)).2.2 p h q g ↔ ((av t).2.2 p h q g ∨ (av s).2.2 (p + (gl t).2) (h + (av t).2.1) q g) := fun q g => by rw [av_C, ← gt]; exact Iff.rfl
    have hg : (gn st (nI np) (fC t s)).2 p = (gn st (nI np) t).2 p ++ (gn st (nI np) s).2 (p + (gl t).2) := by rw [gn_C, ← (gn_len st (nI np) t).2 p]; rfl
    have hl : (gl (fC t s)).2 = (gl t).2 + (gl s).2 := by rw [gl_C]
    have hd : (av (fC t s)).2.1 = (av t).2.1 + (av s).2.1 := by rw [av_C]; rfl
    rw [hg] at hc
    rw [hl, hd] at he
    obtain ⟨k1, k2⟩ := cw_app hc
    rw [(gn_len st (nI np) t).2] at k2
    have sB : ∀ q g, (av s).2.2 (p + (gl t).2) (h + (av t).2.1) q g → W q g := fun q g hq => hsub q g ((ha q g).mpr (Or.inr hq))
    have eB : W (p + (gl t).2 + (gl s).2) (h + (av t).2.1 + (av s).2.1) := by rw [show p + (gl t).2 + (gl s).2 = p + ((gl t).2 + (gl s).2) by omega, show h + (av t).2.1 + (av s).2.1 = h + ((av t).2.1 + (av s).2.1) by omega]; exact he
    have hI := ht r1 m1 h1 p h k1 (fun q g hq => hsub q g ((ha q g).mpr (Or.inl hq))) (W_st (av_s s r2 m2 h2) sB eB)
    have hJ := hs r2 m2 h2 (p + (gl t).2) (h + (av t).2.1) k2 sB eB
    intro q g hq
    rcases (ha q g).mp hq with hq | hq
    · exact hI q g hq
    · exact hJ q g hq
end
