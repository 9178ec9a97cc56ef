/-! THE CLASS: programs that grow -/
def yExt (P P' : yP) : Prop := gExt P.1 P'.1 ∧ ∀ g, g < P.1.2.2.2.2 → P'.2.2.2.1 g = P.2.2.2.1 g ∧ P'.2.2.2.2 g = P.2.2.2.2 g
theorem yExt_refl {P : yP} : yExt P P := ⟨gExt_refl _, fun _ _ => ⟨rfl, rfl⟩⟩
theorem yExt_trans {P Q R : yP} (h : yExt P Q) (h2 : yExt Q R) : yExt P R := by
  refine ⟨⟨Nat.le_trans h.1.1 h2.1.1, fun g hg => ?_⟩, fun g hg => ?_⟩
  · obtain ⟨a1, a2, a3, a4⟩ := h.1.2 g hg
    obtain ⟨b1, b2, b3, b4⟩ := h2.1.2 g (Nat.lt_of_lt_of_le hg h.1.1)
    exact ⟨b1.trans a1, b2.trans a2, b3.trans a3, b4.trans a4⟩
  · obtain ⟨a1, a2⟩ := h.2 g hg
    obtain ⟨b1, b2⟩ := h2.2 g (Nat.lt_of_lt_of_le hg h.1.1)
    exact ⟨b1.trans a1, b2.trans a2⟩
theorem yExt_fn {P : yP} {w : Int64} {m : Nat} {A : fT} {ms : Nat} : yExt P (fnP P w m A ms) := by
  refine ⟨gAdd_ext _ _ _ _ _, fun g hg => ?_⟩
  unfold fnP
  have e : g ≠ P.1.2.2.2.2 := by omega
  exact ⟨if_neg e, if_neg e⟩
theorem yExt_gl {P : yP} {w : Int64} {sr a v : Int32} {k : Nat} : yExt P (gAdd P.1 w sr a v, k, P.2.2) := ⟨gAdd_ext _ _ _ _ _, fun _ _ => ⟨rfl, rfl⟩⟩
theorem yExt_nst {P P' : yP} (h : yExt P P') {g : Nat} (hg : g ≤ P.1.2.2.2.2) : nst P' g = nst P g ∧ szN P' g = szN P g :=
  ⟨nst_cong g (fun i hi => ⟨(h.1.2 i (by omega)).2.1, fun _ => (h.2 i (by omega)).1⟩), szN_cong g (fun i hi => ⟨(h.1.2 i (by omega)).2.1, fun _ => (h.2 i (by omega)).1⟩)⟩
theorem yDecl_ext {x : Nat → Int32} {n tc : Nat} {P P' : yP} {tk t' : yTok} {c c' : Nat} (h : yDecl x n tc P tk c = .ok (P', t', c')) : yExt P P' := by
  rw [yDecl_s] at h
  cases h1 : need 42 tk with
  | error e => rw [h1] at h; cases h
  | ok y =>
    rw [h1, xb_k] at h
    cases h2 : cm x n tk with
    | error e => rw [h2] at h; cases h
    | ok t1 =>
      rw [h2, xb_k] at h
      cases h3 : yTo x n P.1 t1 with
      | error e => rw [h3] at h; cases h
      | ok t2 =>
        rw [h3, xb_k] at h
        by_cases c2 : t2.2.2.1 = 49
        · rw [if_pos c2, yFun_of] at h
          cases h4 : yOf x n tc t1.2.1 t2 c with
          | error e => rw [h4] at h; cases h
          | ok v =>
            rw [h4, xb_k] at h
            cases h5 : yBlock x n tc (gAdd P.1 t1.2.2.2 2 (nI P.2.2.1) (nI v.1.2.2)) (yS x n tc (gAdd P.1 t1.2.2.2 2 (nI P.2.2.1) (nI v.1.2.2)) 42) 0 (lPlace v.1) 0 0 v.2.1 v.2.2 with
            | error e => rw [h5] at h; cases h
            | ok r =>
              rw [h5, xb_k] at h
              cases h
              exact yExt_fn
        · rw [if_neg c2] at h
          cases h4 : yGl x n t2 with
          | error e => rw [h4] at h; cases h
          | ok u =>
            rw [h4, xb_k] at h
            cases h
            exact yExt_gl
theorem yDecls_ext {x : Nat → Int32} {n tc : Nat} : ∀ (f : Nat) (P P' : yP) (tk : yTok) (c : Nat), yDecls x n tc f P tk c = .ok P' → yExt P P' := by
  intro f
  induction f with
  | zero => intro P P' tk c h; cases h
  | succ f ih =>
    intro P P' tk c h
    rw [yDecls] at h
    by_cases e : tk.2.2.1 = 58
    · rw [if_pos e] at h
      cases h
      exact yExt_refl
    · rw [if_neg e] at h
      cases h1 : yDecl x n tc P tk c with
      | error e => rw [h1] at h; cases h
      | ok v =>
        obtain ⟨P1, t1, c1⟩ := v
        rw [h1, xb_k] at h
        exact yExt_trans (yDecl_ext h1) (ih P1 P' t1 c1 h)
