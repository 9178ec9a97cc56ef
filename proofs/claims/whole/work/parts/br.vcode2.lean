/-! THE MACHINE: every instruction goes on to an instruction -/
def cw (C : Nat → Int32) (p : Nat) (l : List Int32) : Prop := ∀ (j : Nat) (v : Int32), l[j]? = some v → C (p + j) = v
theorem cw_app {C : Nat → Int32} {p : Nat} {l r : List Int32} (h : cw C p (l ++ r)) : cw C p l ∧ cw C (p + l.length) r := by
  refine ⟨fun j v hj => ?_, fun j v hj => ?_⟩
  · have hlt := (List.getElem?_eq_some_iff.mp hj).1
    exact h j v (by rw [List.getElem?_append_left hlt]; exact hj)
  · have := h (l.length + j) v (by rw [List.getElem?_append_right (by omega), show l.length + j - l.length = j by omega]; exact hj)
    rw [show p + (l.length + j) = p + l.length + j by omega] at this
    exact this
section
variable (C : Nat → Int32) (G : gE) (gs np K : Nat) (st : Nat → Int32) (W : Nat → Nat → Prop)
def ck (q h : Nat) : Prop :=
  (C q = 1 ∧ W (q + 2) (h + 1)) ∨
  (C q = 2 ∧ (∃ x : Nat, x < gs ∧ C (q + 1) = nI x) ∧ W (q + 2) (h + 1)) ∨
  (C q = 3 ∧ (∃ x : Nat, x < gs ∧ C (q + 1) = nI x) ∧ 1 ≤ h ∧ W (q + 2) (h - 1)) ∨
  (C q = 4 ∧ (∃ v, plOk np K v ∧ C (q + 1) = Int32.ofInt v) ∧ W (q + 2) (h + 1)) ∨
  (C q = 5 ∧ (∃ v, plOk np K v ∧ C (q + 1) = Int32.ofInt v) ∧ 1 ≤ h ∧ W (q + 2) (h - 1)) ∨
  (C q = 6 ∧ (∃ x c : Nat, x + c ≤ gs ∧ C (q + 1) = nI x ∧ C (q + 2) = nI c) ∧ 1 ≤ h ∧ W (q + 3) h) ∨
  (C q = 7 ∧ (∃ x c : Nat, x + c ≤ gs ∧ C (q + 1) = nI x ∧ C (q + 2) = nI c) ∧ 2 ≤ h ∧ W (q + 3) (h - 2)) ∨
  (∃ o : Nat, C q = nI o ∧ ((10 ≤ o ∧ o ≤ 23) ∨ o = 27 ∨ o = 28) ∧ 2 ≤ h ∧ W (q + 1) (h - 1)) ∨
  (∃ o : Nat, C q = nI o ∧ 24 ≤ o ∧ o ≤ 26 ∧ 1 ≤ h ∧ W (q + 1) h) ∨
  (C q = 30 ∧ ∃ t : Nat, C (q + 1) = nI t ∧ W t h) ∨
  (C q = 31 ∧ 1 ≤ h ∧ (∃ t : Nat, C (q + 1) = nI t ∧ W t (h - 1)) ∧ W (q + 2) (h - 1)) ∨
  (C q = 32 ∧ ∃ f m : Nat, f < G.2.2.2.2 ∧ G.2.1 f = 2 ∧ G.2.2.2.1 f = nI m ∧ m ≤ 8 ∧ C (q + 1) = st f ∧ C (q + 2) = nI m ∧ m ≤ h ∧ W (q + 3) (h - m + 1)) ∨
  (C q = 33 ∧ C (q + 1) = nI np ∧ 1 ≤ h) ∨
  (C q = 34 ∧ 1 ≤ h ∧ W (q + 1) (h - 1)) ∨
  (C q = 35 ∧ W (q + 1) (h + 1)) ∨
  (C q = 36 ∧ 1 ≤ h ∧ W (q + 1) (h - 1))
end
section
variable {C : Nat → Int32} {G : gE} {gs np K : Nat} {st : Nat → Int32} {W : Nat → Nat → Prop} {q h : Nat}
theorem ck1 (a : C q = 1) (b : W (q + 2) (h + 1)) : ck C G gs np K st W q h := Or.inl ⟨a, b⟩
theorem ck2 (a : C q = 2) (c : ∃ x : Nat, x < gs ∧ C (q + 1) = nI x) (b : W (q + 2) (h + 1)) : ck C G gs np K st W q h := Or.inr (Or.inl ⟨a, c, b⟩)
theorem ck3 (a : C q = 3) (c : ∃ x : Nat, x < gs ∧ C (q + 1) = nI x) (d : 1 ≤ h) (b : W (q + 2) (h - 1)) : ck C G gs np K st W q h := Or.inr (Or.inr (Or.inl ⟨a, c, d, b⟩))
theorem ck4 (a : C q = 4) (c : ∃ v, plOk np K v ∧ C (q + 1) = Int32.ofInt v) (b : W (q + 2) (h + 1)) : ck C G gs np K st W q h := Or.inr (Or.inr (Or.inr (Or.inl ⟨a, c, b⟩)))
theorem ck5 (a : C q = 5) (c : ∃ v, plOk np K v ∧ C (q + 1) = Int32.ofInt v) (d : 1 ≤ h) (b : W (q + 2) (h - 1)) : ck C G gs np K st W q h := Or.inr (Or.inr (Or.inr (Or.inr (Or.inl ⟨a, c, d, b⟩))))
theorem ck6 (a : C q = 6) (c : ∃ x c : Nat, x + c ≤ gs ∧ C (q + 1) = nI x ∧ C (q + 2) = nI c) (d : 1 ≤ h) (b : W (q + 3) h) : ck C G gs np K st W q h := Or.inr (Or.inr (Or.inr (Or.inr (Or.inr (Or.inl ⟨a, c, d, b⟩)))))
theorem ck7 (a : C q = 7) (c : ∃ x c : Nat, x + c ≤ gs ∧ C (q + 1) = nI x ∧ C (q + 2) = nI c) (d : 2 ≤ h) (b : W (q + 3) (h - 2)) : ck C G gs np K st W q h := Or.inr (Or.inr (Or.inr (Or.inr (Or.inr (Or.inr (Or.inl ⟨a, c, d, b⟩))))))
theorem ck8 (o : Nat) (a : C q = nI o) (c : (10 ≤ o ∧ o ≤ 23) ∨ o = 27 ∨ o = 28) (d : 2 ≤ h) (b : W (q + 1) (h - 1)) : ck C G gs np K st W q h := Or.inr (Or.inr (Or.inr (Or.inr (Or.inr (Or.inr (Or.inr (Or.inl ⟨o, a, c, d, b⟩)))))))
theorem ck9 (o : Nat) (a : C q = nI o) (c : 24 ≤ o) (c2 : o ≤ 26) (d : 1 ≤ h) (b : W (q + 1) h) : ck C G gs np K st W q h := Or.inr (Or.inr (Or.inr (Or.inr (Or.inr (Or.inr (Or.inr (Or.inr (Or.inl ⟨o, a, c, c2, d, b⟩))))))))
theorem ck30 {t : Nat} (a : C q = 30) (c : C (q + 1) = nI t) (b : W t h) : ck C G gs np K st W q h := Or.inr (Or.inr (Or.inr (Or.inr (Or.inr (Or.inr (Or.inr (Or.inr (Or.inr (Or.inl ⟨a, t, c, b⟩)))))))))
theorem ck31 {t : Nat} (a : C q = 31) (d : 1 ≤ h) (c : C (q + 1) = nI t) (b : W t (h - 1)) (b2 : W (q + 2) (h - 1)) : ck C G gs np K st W q h := Or.inr (Or.inr (Or.inr (Or.inr (Or.inr (Or.inr (Or.inr (Or.inr (Or.inr (Or.inr (Or.inl ⟨a, d, ⟨t, c, b⟩, b2⟩))))))))))
theorem ck32 {f m : Nat} (a : C q = 32) (c1 : f < G.2.2.2.2) (c2 : G.2.1 f = 2) (c3 : G.2.2.2.1 f = nI m) (c4 : m ≤ 8) (c5 : C (q + 1) = st f) (c6 : C (q + 2) = nI m) (d : m ≤ h) (b : W (q + 3) (h - m + 1)) : ck C G gs np K st W q h := Or.inr (Or.inr (Or.inr (Or.inr (Or.inr (Or.inr (Or.inr (Or.inr (Or.inr (Or.inr (Or.inr (Or.inl ⟨a, f, m, c1, c2, c3, c4, c5, c6, d, b⟩)))))))))))
theorem ck33 (a : C q = 33) (c : C (q + 1) = nI np) (d : 1 ≤ h) : ck C G gs np K st W q h := Or.inr (Or.inr (Or.inr (Or.inr (Or.inr (Or.inr (Or.inr (Or.inr (Or.inr (Or.inr (Or.inr (Or.inr (Or.inl ⟨a, c, d⟩))))))))))))
theorem ck34 (a : C q = 34) (d : 1 ≤ h) (b : W (q + 1) (h - 1)) : ck C G gs np K st W q h := Or.inr (Or.inr (Or.inr (Or.inr (Or.inr (Or.inr (Or.inr (Or.inr (Or.inr (Or.inr (Or.inr (Or.inr (Or.inr (Or.inl ⟨a, d, b⟩)))))))))))))
theorem ck35 (a : C q = 35) (b : W (q + 1) (h + 1)) : ck C G gs np K st W q h := Or.inr (Or.inr (Or.inr (Or.inr (Or.inr (Or.inr (Or.inr (Or.inr (Or.inr (Or.inr (Or.inr (Or.inr (Or.inr (Or.inr (Or.inl ⟨a, b⟩))))))))))))))
theorem ck36 (a : C q = 36) (d : 1 ≤ h) (b : W (q + 1) (h - 1)) : ck C G gs np K st W q h := Or.inr (Or.inr (Or.inr (Or.inr (Or.inr (Or.inr (Or.inr (Or.inr (Or.inr (Or.inr (Or.inr (Or.inr (Or.inr (Or.inr (Or.inr ⟨a, d, b⟩))))))))))))))
theorem W_st {t : fT} {r m p h : Nat} (hs : avS t r m) (h1 : ∀ q g, (av t).2.2 p h q g → W q g) (h2 : W (p + (gl t).2) (h + (av t).2.1)) : W p h := by
  rcases hs.2 p h with a | ⟨a, b, c⟩
  · exact h1 p h a
  · rw [hs.1, b, if_neg a] at h2
    by_cases e : r = 3
    · rw [if_pos e, c e] at h2; exact h2
    · rw [if_neg e] at h2; exact h2
/-- a tree's code goes on within itself, or to what is behind it -/
def ckT (C : Nat → Int32) (G : gE) (gs np K : Nat) (st : Nat → Int32) (W : Nat → Nat → Prop) (t : fT) (p h : Nat) : Prop := cw C p ((gn st (nI np) t).2 p) → (∀ q g, (av t).2.2 p h q g → W q g) → W (p + (gl t).2) (h + (av t).2.1) → ∀ q g, (av t).2.2 p h q g → ck C G gs np K st W q g
theorem ofInt_n {v : Int} (h : 0 ≤ v) : Int32.ofInt v = nI v.toNat := by
  obtain ⟨n, rfl⟩ := Int.eq_ofNat_of_zero_le h
  rfl
theorem ck_E {k : Nat} {v w : Int} {A B D : fT} {m p h : Nat} (hw : wf G gs np K (fN k v w A B D) 0 m) (hA : ∀ r m p h, wf G gs np K A r m → ckT C G gs np K st W A p h) (hB : ∀ r m p h, wf G gs np K B r m → ckT C G gs np K st W B p h) : ckT C G gs np K st W (fN k v w A B D) p h := by
  have lA := (gn_len st (nI np) A).2
  have lB := (gn_len st (nI np) B).2
  have gA : (av A).1.2 = (gl A).2 := by rw [av_gl]
  have gB : (av B).1.2 = (gl B).2 := by rw [av_gl]
  have hk : k < 20 := by have := wE_c hw; omega
  have hd : (av (fN k v w A B D)).2.1 = 1 := by rw [av_N]; exact if_pos hk
  intro hc hs he
  rw [hd] at he
  rcases wE_c hw with c | c | c | c | c | c | c | c | c
  · subst c
    rw [gn_N] at hc
    rw [gl_N] at he
    rw [av_N]
    rintro q g ⟨rfl, rfl⟩
    exact ck1 (hc 0 _ rfl) he
  · subst c
    rw [gn_N] at hc
    rw [gl_N] at he
    rw [av_N]
    rintro q g ⟨rfl, rfl⟩
    exact ck35 (hc 0 _ rfl) he
  · obtain ⟨rfl, c1, c2⟩ := c
    rw [gn_N] at hc
    rw [gl_N] at he
    rw [av_N]
    rintro q g ⟨rfl, rfl⟩
    exact ck2 (hc 0 _ rfl) ⟨v.toNat, by omega, by rw [← ofInt_n c1]; exact hc 1 _ rfl⟩ he
  · obtain ⟨rfl, c1⟩ := c
    rw [gn_N] at hc
    rw [gl_N] at he
    rw [av_N]
    rintro q g ⟨rfl, rfl⟩
    exact ck4 (hc 0 _ rfl) ⟨v, c1, hc 1 _ rfl⟩ he
  · obtain ⟨rfl, c1, c2, c3, c4⟩ := c
    have dA : (av A).2.1 = 1 := (av_s A 0 0 c1).1
    have hg : (gn st (nI np) (fN 4 v w A B D)).2 p = (gn st (nI np) A).2 p ++ [6, Int32.ofInt v, Int32.ofInt w] := by rw [gn_N]; rfl
    have hl : (gl (fN 4 v w A B D)).2 = (gl A).2 + 3 := by rw [gl_N]; rfl
    have ha : ∀ q g, (av (fN 4 v w A B D)).2.2 p h q g ↔ ((av A).2.2 p h q g ∨ (q = p + (gl A).2 ∧ g = h + 1)) := fun q g => by rw [av_N, ← gA, ← dA]; exact Iff.rfl
    rw [hg] at hc
    rw [hl] at he
    obtain ⟨k1, k2⟩ := cw_app hc
    rw [lA] at k2
    have hI := hA 0 0 p h c1 k1 (fun q g hq => hs q g ((ha q g).mpr (Or.inl hq))) (hs _ _ ((ha _ _).mpr (Or.inr ⟨rfl, by rw [dA]⟩)))
    intro q g hq
    rcases (ha q g).mp hq with hq | ⟨rfl, rfl⟩
    · exact hI q g hq
    · exact ck6 (k2 0 _ rfl) ⟨v.toNat, w.toNat, by omega, by rw [← ofInt_n c2]; exact k2 1 _ rfl, by rw [← ofInt_n (show 0 ≤ w by omega)]; exact k2 2 _ rfl⟩ (by omega) he
  · obtain ⟨rfl, c1, c2, c3⟩ := c
    have dA : (av A).2.1 = 1 := (av_s A 0 0 c1).1
    have hg : (gn st (nI np) (fN 5 v w A B D)).2 p = (gn st (nI np) A).2 p ++ [Int32.ofInt v] := by rw [gn_N]; rfl
    have hl : (gl (fN 5 v w A B D)).2 = (gl A).2 + 1 := by rw [gl_N]; rfl
    have ha : ∀ q g, (av (fN 5 v w A B D)).2.2 p h q g ↔ ((av A).2.2 p h q g ∨ (q = p + (gl A).2 ∧ g = h + 1)) := fun q g => by rw [av_N, ← gA, ← dA]; exact Iff.rfl
    rw [hg] at hc
    rw [hl] at he
    obtain ⟨k1, k2⟩ := cw_app hc
    rw [lA] at k2
    have hI := hA 0 0 p h c1 k1 (fun q g hq => hs q g ((ha q g).mpr (Or.inl hq))) (hs _ _ ((ha _ _).mpr (Or.inr ⟨rfl, by rw [dA]⟩)))
    intro q g hq
    rcases (ha q g).mp hq with hq | ⟨rfl, rfl⟩
    · exact hI q g hq
    · exact ck9 v.toNat (by rw [← ofInt_n (show 0 ≤ v by omega)]; exact k2 0 _ rfl) (by omega) (by omega) (by omega) he
  · obtain ⟨rfl, c1, c2, c3⟩ := c
    have dA : (av A).2.1 = 1 := (av_s A 0 0 c1).1
    have dB : (av B).2.1 = 1 := (av_s B 0 0 c2).1
    have hg : (gn st (nI np) (fN 6 v w A B D)).2 p = (gn st (nI np) A).2 p ++ ((gn st (nI np) B).2 (p + (gl A).2) ++ [Int32.ofInt v]) := by rw [gn_N, ← lA p]; rfl
    have hl : (gl (fN 6 v w A B D)).2 = (gl A).2 + ((gl B).2 + 1) := by rw [gl_N]; rfl
    have ha : ∀ q g, (av (fN 6 v w A B D)).2.2 p h q g ↔ ((av A).2.2 p h q g ∨ (av B).2.2 (p + (gl A).2) (h + 1) q g ∨ (q = p + (gl A).2 + (gl B).2 ∧ g = h + 2)) := fun q g => by rw [av_N, ← gA, ← gB]; exact Iff.rfl
    rw [hg] at hc
    rw [hl] at he
    obtain ⟨k1, k2⟩ := cw_app hc
    rw [lA] at k2
    obtain ⟨k2, k3⟩ := cw_app k2
    rw [lB] at k3
    have eB : W (p + (gl A).2 + (gl B).2) (h + 1 + (av B).2.1) := hs _ _ ((ha _ _).mpr (Or.inr (Or.inr ⟨rfl, by rw [dB]⟩)))
    have sB : ∀ q g, (av B).2.2 (p + (gl A).2) (h + 1) q g → W q g := fun q g hq => hs q g ((ha q g).mpr (Or.inr (Or.inl hq)))
    have hI := hA 0 0 p h c1 k1 (fun q g hq => hs q g ((ha q g).mpr (Or.inl hq))) (by rw [dA]; exact W_st (av_s B 0 0 c2) sB eB)
    have hJ := hB 0 0 (p + (gl A).2) (h + 1) c2 k2 sB eB
    intro q g hq
    rcases (ha q g).mp hq with hq | hq | ⟨rfl, rfl⟩
    · exact hI q g hq
    · exact hJ q g hq
    · exact ck8 v.toNat (by rw [← ofInt_n (show 0 ≤ v by omega)]; exact k3 0 _ rfl) (by omega) (by omega) (by rw [show p + (gl A).2 + (gl B).2 + 1 = p + ((gl A).2 + ((gl B).2 + 1)) by omega]; exact he)
  · obtain ⟨e | e, c1, c2⟩ := c
    · subst e
      have dA : (av A).2.1 = 1 := (av_s A 0 0 c1).1
      have dB : (av B).2.1 = 1 := (av_s B 0 0 c2).1
      obtain ⟨z, hz⟩ : ∃ z, z = p + (gl A).2 := ⟨_, rfl⟩
      obtain ⟨y, hy⟩ : ∃ y, y = z + 2 + (gl B).2 := ⟨_, rfl⟩
      have hg : (gn st (nI np) (fN 7 v w A B D)).2 p = (gn st (nI np) A).2 p ++ ([31, nI (y + 6)] ++ ((gn st (nI np) B).2 (z + 2) ++ [31, nI (y + 6), 1, 1, 30, nI (y + 8), 1, 0])) := by rw [gn_N, hy, hz, ← lA p, ← lB (p + ((gn st (nI np) A).2 p).length + 2)]; rfl
      have hl : (gl (fN 7 v w A B D)).2 = (gl A).2 + (2 + ((gl B).2 + 8)) := by rw [gl_N]; rfl
      have ha : ∀ q g, (av (fN 7 v w A B D)).2.2 p h q g ↔ ((av A).2.2 p h q g ∨ (q = z ∧ g = h + 1) ∨ (av B).2.2 (z + 2) h q g ∨ (q = y ∧ g = h + 1) ∨ (q = y + 2 ∧ g = h) ∨ (q = y + 4 ∧ g = h + 1) ∨ (q = y + 6 ∧ g = h)) := fun q g => by rw [av_N, hy, hz, ← gA, ← gB]; exact Iff.rfl
      rw [hg] at hc
      rw [hl, show p + ((gl A).2 + (2 + ((gl B).2 + 8))) = y + 8 by omega] at he
      obtain ⟨k1, k2⟩ := cw_app hc
      rw [lA, ← hz] at k2
      obtain ⟨k2, k3⟩ := cw_app k2
      rw [show z + [31, nI (y + 6)].length = z + 2 from rfl] at k3
      obtain ⟨k3, k4⟩ := cw_app k3
      rw [lB, ← hy] at k4
      have s1 : W z (h + 1) := hs _ _ ((ha _ _).mpr (Or.inr (Or.inl ⟨rfl, rfl⟩)))
      have sB : ∀ q g, (av B).2.2 (z + 2) h q g → W q g := fun q g hq => hs q g ((ha q g).mpr (Or.inr (Or.inr (Or.inl hq))))
      have s2 : W y (h + 1) := hs _ _ ((ha _ _).mpr (Or.inr (Or.inr (Or.inr (Or.inl ⟨rfl, rfl⟩)))))
      have s3 : W (y + 2) h := hs _ _ ((ha _ _).mpr (Or.inr (Or.inr (Or.inr (Or.inr (Or.inl ⟨rfl, rfl⟩))))))
      have s4 : W (y + 4) (h + 1) := hs _ _ ((ha _ _).mpr (Or.inr (Or.inr (Or.inr (Or.inr (Or.inr (Or.inl ⟨rfl, rfl⟩)))))))
      have s5 : W (y + 6) h := hs _ _ ((ha _ _).mpr (Or.inr (Or.inr (Or.inr (Or.inr (Or.inr (Or.inr ⟨rfl, rfl⟩)))))))
      have eB : W (z + 2 + (gl B).2) (h + (av B).2.1) := by rw [dB, ← hy]; exact s2
      have hI := hA 0 0 p h c1 k1 (fun q g hq => hs q g ((ha q g).mpr (Or.inl hq))) (by rw [dA, ← hz]; exact s1)
      have hJ := hB 0 0 (z + 2) h c2 k3 sB eB
      intro q g hq
      rcases (ha q g).mp hq with hq | ⟨rfl, rfl⟩ | hq | ⟨rfl, rfl⟩ | ⟨rfl, rfl⟩ | ⟨rfl, rfl⟩ | ⟨rfl, rfl⟩
      · exact hI q g hq
      · exact ck31 (k2 0 _ rfl) (by omega) (k2 1 _ rfl) s5 (W_st (av_s B 0 0 c2) sB eB)
      · exact hJ q g hq
      · exact ck31 (k4 0 _ rfl) (by omega) (k4 1 _ rfl) s5 s3
      · exact ck1 (k4 2 _ rfl) s4
      · exact ck30 (k4 4 _ rfl) (k4 5 _ rfl) he
      · exact ck1 (k4 6 _ rfl) he
    · subst e
      have dA : (av A).2.1 = 1 := (av_s A 0 0 c1).1
      have dB : (av B).2.1 = 1 := (av_s B 0 0 c2).1
      obtain ⟨z, hz⟩ : ∃ z, z = p + (gl A).2 := ⟨_, rfl⟩
      obtain ⟨y, hy⟩ : ∃ y, y = z + 6 + (gl B).2 := ⟨_, rfl⟩
      have hg : (gn st (nI np) (fN 8 v w A B D)).2 p = (gn st (nI np) A).2 p ++ ([31, nI (z + 6), 1, 1, 30, nI (y + 8)] ++ ((gn st (nI np) B).2 (z + 6) ++ [31, nI (y + 6), 1, 1, 30, nI (y + 8), 1, 0])) := by rw [gn_N, hy, hz, ← lA p, ← lB (p + ((gn st (nI np) A).2 p).length + 6)]; rfl
      have hl : (gl (fN 8 v w A B D)).2 = (gl A).2 + (6 + ((gl B).2 + 8)) := by rw [gl_N]; rfl
      have ha : ∀ q g, (av (fN 8 v w A B D)).2.2 p h q g ↔ ((av A).2.2 p h q g ∨ (q = z ∧ g = h + 1) ∨ (q = z + 2 ∧ g = h) ∨ (q = z + 4 ∧ g = h + 1) ∨ (av B).2.2 (z + 6) h q g ∨ (q = y ∧ g = h + 1) ∨ (q = y + 2 ∧ g = h) ∨ (q = y + 4 ∧ g = h + 1) ∨ (q = y + 6 ∧ g = h)) := fun q g => by rw [av_N, hy, hz, ← gA, ← gB]; exact Iff.rfl
      rw [hg] at hc
      rw [hl, show p + ((gl A).2 + (6 + ((gl B).2 + 8))) = y + 8 by omega] at he
      obtain ⟨k1, k2⟩ := cw_app hc
      rw [lA, ← hz] at k2
      obtain ⟨k2, k3⟩ := cw_app k2
      rw [show z + [31, nI (z + 6), 1, 1, 30, nI (y + 8)].length = z + 6 from rfl] at k3
      obtain ⟨k3, k4⟩ := cw_app k3
      rw [lB, ← hy] at k4
      have s1 : W z (h + 1) := hs _ _ ((ha _ _).mpr (Or.inr (Or.inl ⟨rfl, rfl⟩)))
      have t2 : W (z + 2) h := hs _ _ ((ha _ _).mpr (Or.inr (Or.inr (Or.inl ⟨rfl, rfl⟩))))
      have t3 : W (z + 4) (h + 1) := hs _ _ ((ha _ _).mpr (Or.inr (Or.inr (Or.inr (Or.inl ⟨rfl, rfl⟩)))))
      have sB : ∀ q g, (av B).2.2 (z + 6) h q g → W q g := fun q g hq => hs q g ((ha q g).mpr (Or.inr (Or.inr (Or.inr (Or.inr (Or.inl hq))))))
      have s2 : W y (h + 1) := hs _ _ ((ha _ _).mpr (Or.inr (Or.inr (Or.inr (Or.inr (Or.inr (Or.inl ⟨rfl, rfl⟩)))))))
      have s3 : W (y + 2) h := hs _ _ ((ha _ _).mpr (Or.inr (Or.inr (Or.inr (Or.inr (Or.inr (Or.inr (Or.inl ⟨rfl, rfl⟩))))))))
      have s4 : W (y + 4) (h + 1) := hs _ _ ((ha _ _).mpr (Or.inr (Or.inr (Or.inr (Or.inr (Or.inr (Or.inr (Or.inr (Or.inl ⟨rfl, rfl⟩)))))))))
      have s5 : W (y + 6) h := hs _ _ ((ha _ _).mpr (Or.inr (Or.inr (Or.inr (Or.inr (Or.inr (Or.inr (Or.inr (Or.inr ⟨rfl, rfl⟩)))))))))
      have eB : W (z + 6 + (gl B).2) (h + (av B).2.1) := by rw [dB, ← hy]; exact s2
      have hI := hA 0 0 p h c1 k1 (fun q g hq => hs q g ((ha q g).mpr (Or.inl hq))) (by rw [dA, ← hz]; exact s1)
      have hJ := hB 0 0 (z + 6) h c2 k3 sB eB
      intro q g hq
      rcases (ha q g).mp hq with hq | ⟨rfl, rfl⟩ | ⟨rfl, rfl⟩ | ⟨rfl, rfl⟩ | hq | ⟨rfl, rfl⟩ | ⟨rfl, rfl⟩ | ⟨rfl, rfl⟩ | ⟨rfl, rfl⟩
      · exact hI q g hq
      · exact ck31 (k2 0 _ rfl) (by omega) (k2 1 _ rfl) (W_st (av_s B 0 0 c2) sB eB) t2
      · exact ck1 (k2 2 _ rfl) t3
      · exact ck30 (k2 4 _ rfl) (k2 5 _ rfl) he
      · exact hJ q g hq
      · exact ck31 (k4 0 _ rfl) (by omega) (k4 1 _ rfl) s5 s3
      · exact ck1 (k4 2 _ rfl) s4
      · exact ck30 (k4 4 _ rfl) (k4 5 _ rfl) he
      · exact ck1 (k4 6 _ rfl) he
  · obtain ⟨rfl, c1, c2, c3, c4, c5, c6, c7⟩ := c
    have dA : (av A).2.1 = w.toNat := (av_s A 3 _ c4).1
    have hg : (gn st (nI np) (fN 9 v w A B D)).2 p = (gn st (nI np) A).2 p ++ [32, st v.toNat, Int32.ofInt w] := by rw [gn_N]; rfl
    have hl : (gl (fN 9 v w A B D)).2 = (gl A).2 + 3 := by rw [gl_N]; rfl
    have ha : ∀ q g, (av (fN 9 v w A B D)).2.2 p h q g ↔ ((av A).2.2 p h q g ∨ (q = p + (gl A).2 ∧ g = h + w.toNat)) := fun q g => by rw [av_N, ← gA, ← dA]; exact Iff.rfl
    rw [hg] at hc
    rw [hl] at he
    obtain ⟨k1, k2⟩ := cw_app hc
    rw [lA] at k2
    have hI := hA 3 _ p h c4 k1 (fun q g hq => hs q g ((ha q g).mpr (Or.inl hq))) (hs _ _ ((ha _ _).mpr (Or.inr ⟨rfl, by rw [dA]⟩)))
    intro q g hq
    rcases (ha q g).mp hq with hq | ⟨rfl, rfl⟩
    · exact hI q g hq
    · exact ck32 (k2 0 _ rfl) c5 c6 c7 (by omega) (k2 1 _ rfl) (by rw [← ofInt_n c2]; exact k2 2 _ rfl) (by omega) (by rw [show h + w.toNat - w.toNat + 1 = h + 1 by omega]; exact he)
end
