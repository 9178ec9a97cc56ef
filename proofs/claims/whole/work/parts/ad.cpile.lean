/-! THE CLASS: signs that wait -/
def hdL (s : Int32) (p : Nat) : List Int32 := if s = 8 then [31, 0] else if s = 9 then [31, nI (p + 6), 1, 1, 30, 0] else []
section
variable (ln : Nat → Nat) (q : Nat) (fnd st : Nat → Int32) (np : Nat) (σ : zSt) (base lo p0 : Nat)
def rOc : yOps → Nat → Nat → Nat → Prop
  | [], tp, s, p => tp = base ∧ s = lo ∧ p = p0
  | o :: r, tp, s, p => ∃ tp' s' p', tp = tp' + 1 ∧ rOc r tp' s' p' ∧ tp' < 512 ∧ zA σ 21 tp' = o.1 ∧ (isOne o.1 = true → s = s' ∧ p = p') ∧
      (isOne o.1 = false → (crp σ q fnd np o.2).1 s' s (zA σ 22 tp') ∧ isNd o.2 ∧ cdC ln q σ p' ((gn st (nI np) o.2).2 p' ++ hdL o.1 (p' + (gl o.2).2)) ∧ p = p' + (gl o.2).2 + (hdL o.1 (p' + (gl o.2).2)).length ∧ (o.1 = 8 ∨ o.1 = 9 → zA σ 23 tp' = nI (p - 1)))
end
section
variable {ln : Nat → Nat} {N M q cc : Nat} {x : Nat → Int32} {n tc : Nat} {G : gE} {L : lE} {np : Nat} {fnd st : Nat → Int32} {mu : Int32} {tk : yTok} {c ns s p t D : Nat} {σ : zSt} {base lo p0 : Nat}
theorem rOc_le : ∀ {ops : yOps} {tp s p : Nat}, rOc ln q fnd st np σ base lo p0 ops tp s p → tp = base + ops.length ∧ lo ≤ s ∧ p0 ≤ p := by
  intro ops
  induction ops with
  | nil => rintro tp s p ⟨rfl, rfl, rfl⟩; exact ⟨rfl, Nat.le_refl _, Nat.le_refl _⟩
  | cons o r ih =>
    rintro tp s p ⟨tp', s', p', rfl, h, h2, h3, h4, h5⟩
    obtain ⟨a, b, d⟩ := ih h
    rw [List.length_cons]
    by_cases e : isOne o.1 = true
    · obtain ⟨e1, e2⟩ := h4 e
      exact ⟨by omega, by omega, by omega⟩
    · obtain ⟨f1, f2, f3, f4, -⟩ := h5 (by cases hh : isOne o.1; rfl; exact absurd hh e)
      have := (crp_cnt o.2).1 _ _ _ f1
      exact ⟨by omega, by omega, by omega⟩
theorem rOc_fX {u : zSt} {s1 p1 t1 : Nat} (hq : q = 9 ∨ q = 10) : ∀ {ops : yOps} {tp s p : Nat}, fX q s1 p1 t1 σ u → s ≤ s1 → p ≤ p1 → tp ≤ t1 → rOc ln q fnd st np σ base lo p0 ops tp s p → rOc ln q fnd st np u base lo p0 ops tp s p := by
  intro ops
  induction ops with
  | nil => intro tp s p _ _ _ _ h; exact h
  | cons o r ih =>
    rintro tp s p hf hs hp ht ⟨tp', s', p', rfl, h, h2, h3, h4, h5⟩
    have hle : s' ≤ s ∧ p' ≤ p := by
      by_cases e : isOne o.1 = true
      · obtain ⟨e1, e2⟩ := h4 e; omega
      · obtain ⟨f1, f2, f3, f4, -⟩ := h5 (by cases hh : isOne o.1; rfl; exact absurd hh e)
        have := (crp_cnt o.2).1 _ _ _ f1
        omega
    refine ⟨tp', s', p', rfl, ih hf (by omega) (by omega) (by omega) h, h2, (hf.2.2.2.1 21 tp' (by unfold eA; omega)).trans h3, h4, fun e => ?_⟩
    obtain ⟨f1, f2, f3, f4, f5⟩ := h5 e
    refine ⟨?_, f2, cdC_fX hq hf (by rw [List.length_append, (gn_len _ _ _).2]; omega) f3, f4, fun e2 => (hf.2.2.2.1 23 tp' (by unfold eA; omega)).trans (f5 e2)⟩
    rw [hf.2.2.2.1 22 tp' (by unfold eA; omega)]
    exact crp_fX hq hf hs f1
theorem isOne_in {k : Int32} (h : isOne k = true) : k = 24 ∨ k = 25 ∨ k = 26 := by
  unfold isOne at h
  rw [decide_eq_true_eq] at h
  exact h
theorem pushC {a b d : Int32} (hL : LN ln q cc) (h : CV ln q x n tc G L np fnd mu tk c ns s p t σ) (ht : t < 512) : fX2_push ln N M a b d σ = some ((), zsI (zsA (zsA (zsA σ 21 t a) 22 t b) 23 t d) 5 6 (nI (t + 1))) ∧ CV ln q x n tc G L np fnd mu tk c ns s p (t + 1) (zsI (zsA (zsA (zsA σ 21 t a) 22 t b) 23 t d) 5 6 (nI (t + 1))) ∧ fX q s p t σ (zsI (zsA (zsA (zsA σ 21 t a) 22 t b) 23 t d) 5 6 (nI (t + 1))) := by
  have hq := hL.1
  have h12 := h.2.2.2.2.2.2.2.1
  have e21 := hL.2.2.2.2.2.2.2.1
  have e22 := hL.2.2.2.2.2.2.2.2.1
  have e23 := hL.2.2.2.2.2.2.2.2.2.1
  refine ⟨?_, CV_f hL.1 h (fX_I (fX_A (fX_A (fX_A fX_refl (by unfold eA; omega)) (by unfold eA; omega)) (by unfold eA; omega)) (by unfold eI; omega)) (fun k => by rw [zI_I, if_neg (by omega)]; rfl) (fun k => rfl) ?_ ?_ ?_ ?_ (by rw [zI_I, if_pos ⟨rfl, rfl⟩]) ?_, fX_I (fX_A (fX_A (fX_A fX_refl (by unfold eA; omega)) (by unfold eA; omega)) (by unfold eA; omega)) (by unfold eI; omega)⟩
  · unfold fX2_push
    rw [h12, e21, e22, e23, if_neg (fun z => by rw [nI_le' (by omega) (by omega)] at z; omega), nI_clamp (by omega), if_neg (ixN ht (by omega)), bnd_e, zI_A, h12, nI_clamp (by omega), if_neg (ixN ht (by omega)), bnd_e, zI_A, zI_A, h12, nI_clamp (by omega), if_neg (ixN ht (by omega)), bnd_e, zI_A, zI_A, zI_A, h12, bnd_e, nI_1]
  · rw [zI_I, if_neg (by omega)]; exact h.2.2.2.1
  · rw [zI_I, if_neg (by omega)]; exact h.2.2.2.2.1
  · rw [zI_I, if_neg (by omega)]; exact h.2.2.2.2.2.1
  · rw [zI_I, if_neg (by omega)]; exact h.2.2.2.2.2.2.1
  · rw [zI_I, if_neg (by omega)]; exact h.2.2.2.2.2.2.2.2
/-- signs ahead of one part -/
theorem openC {ops : yOps} (hL : LN ln q cc) (hn : n ≤ 512) (hN : 5000 ≤ N) (hG : G.2.2.2.2 + L.2.2 ≤ n) {Q : Unit → zSt → Prop} : ∀ (f m : Nat) (l : yOps) (tk : yTok) (c ns t D : Nat) (σ : zSt), CV ln q x n tc G L np fnd (-1) tk c ns s p t σ → CB n tc tk c ns s p D → l.length ≤ ns → ns ≤ 40 → (∀ o ∈ l, isOne o.1 = true ∧ o.2 = fZ) → rOc ln q fnd st np σ base lo p0 (l ++ ops) t s p → t + 40 ≤ 512 + ns → 42 ≤ m + ns → yOpen x n tc f (l ++ ops) ns tk c ≠ .error 0 →
    (∀ l' ns' tk' c' t' D' z, yOpen x n tc f (l ++ ops) ns tk c = .ok (l' ++ ops, ns', tk', c') → ns' + l.length = ns + l'.length → t' = t + (l'.length - l.length) → D' = D + (l'.length - l.length) → l.length ≤ l'.length → (∀ o ∈ l', isOne o.1 = true ∧ o.2 = fZ) → CV ln q x n tc G L np fnd (-1) tk' c' ns' s p t' z → CB n tc tk' c' ns' s p D' → fX q s p t σ z → rOc ln q fnd st np z base lo p0 (l' ++ ops) t' s p → tk.2.1 ≤ tk'.2.1 → ¬ isOne (yOne tk'.2.2.1) = true → Q () z) →
    (∀ e z, yOpen x n tc f (l ++ ops) ns tk c = .error e → e ≠ 0 → DS ln q e 11000 z → fR q σ z → Q () z) →
    wp (fX2_openOnes_b2 ln N M m (nI l.length) σ) Q := by
  intro f
  induction f with
  | zero => intro m l tk c ns t D σ _ _ _ _ _ _ _ _ h0; exact absurd rfl h0
  | succ f ih =>
    intro m l tk c ns t D σ h hB hln hns hl hr htn hm h0 hok her
    have hB0 := hB
    obtain ⟨b1, b2, b3, b4, b5, b6⟩ := hB
    have hp1 := b1.1
    have hp2 := b1.2.1
    obtain ⟨m, rfl⟩ : ∃ g, m = g + 1 := ⟨m - 1, by omega⟩
    rw [fX2_openOnes_b2, if_neg (show ¬ (40 : Int32) < nI l.length from fun z => absurd z (Int32.not_lt.mpr ((nI_le' (b := 40) (by omega) (by omega)).mpr (by omega)))), h.2.1.2.2.1]
    have hsel : (if tk.2.2.1 = 22 then fX2_openOnes_b32 ln N M (fX2_openOnes_b2 ln N M m) (nI l.length) 24 σ else fX2_openOnes_b32 ln N M (fX2_openOnes_b2 ln N M m) (nI l.length) tk.2.2.1 σ) = fX2_openOnes_b32 ln N M (fX2_openOnes_b2 ln N M m) (nI l.length) (yOne tk.2.2.1) σ := by
      unfold yOne
      by_cases e : tk.2.2.1 = 22
      · rw [if_pos e, if_pos e]
      · rw [if_neg e, if_neg e]
    rw [hsel]
    unfold fX2_openOnes_b32
    unfold yOpen at h0 hok her
    by_cases ho : isOne (yOne tk.2.2.1) = true
    · have hin := isOne_in ho
      rw [if_pos ho] at h0 hok her
      have hlt : tk.2.1 < tk.1 := by
        rcases b1.2.2.1 with e | e
        · rw [e] at hin; exact absurd hin (by unfold yOne; decide)
        · exact e
      rw [if_neg (by rcases hin with e | e | e <;> rw [e] <;> decide), if_pos (by rcases hin with e | e | e <;> rw [e] <;> decide)]
      obtain ⟨m', hm'⟩ : ∃ g, m = g + 1 := ⟨m - 1, by omega⟩
      -- told: the rest
      have dead : ∀ e z, DS ln q e 11000 z → fR q σ z → (∀ y, DS ln q e 11000 y → fR q σ y → Q () y) → wp (bnd (nI l.length + 1) (fun x10 => fX2_openOnes_b2 ln N M m x10 z)) Q := by
        intro e z hd hf hQ
        rw [bnd_e, nI_1, hm', fX2_openOnes_b2]
        by_cases c40 : (40 : Int32) < nI (l.length + 1)
        · rw [if_pos c40]; exact wp_s (hQ z hd hf)
        · rw [if_neg c40, hd.2.2.1, if_neg (by decide)]
          unfold fX2_openOnes_b32
          rw [if_pos (by decide)]
          exact wp_s (hQ z hd hf)
      refine stEnter (D := D) hL hn hG (by omega) h hB0 ?_ ?_
      · intro y hen hV1 hF1 hB1
        simp only [hen, xb_k] at h0 hok her
        have hne := ne_kk hen
        revert hV1 hF1
        generalize zsI σ 3 4 (nI (ns + 1)) = s1
        intro hV1 hF1
        rw [hV1.2.1.2.1]
        refine stTake (D := D) hL hn hG (by omega) (by omega) hV1 hB1 ?_ ?_
        · intro c1 hfo hV2 hF2 hB2
          simp only [hfo, xb_k] at h0 hok her
          have hF12 := fX_trans hF1 hF2 (Nat.le_refl _) (Nat.le_refl _) (Nat.le_refl _)
          revert hV2 hF12
          generalize zsI s1 3 3 (nI (tc - c1)) = s2
          intro hV2 hF12
          obtain ⟨p1, hV3, hF3⟩ := pushC (N := N) (M := M) (a := yOne tk.2.2.1) (b := -1) (d := -1) hL hV2 (by omega)
          rw [p1, obd_s]
          have hr2 : rOc ln q fnd st np (zsI (zsA (zsA (zsA s2 21 t (yOne tk.2.2.1)) 22 t (-1)) 23 t (-1)) 5 6 (nI (t + 1))) base lo p0 (((yOne tk.2.2.1, fZ) :: l) ++ ops) (t + 1) s p := by
            refine ⟨t, s, p, rfl, rOc_fX hL.1 hF3 (Nat.le_refl _) (Nat.le_refl _) (Nat.le_refl _) (rOc_fX hL.1 hF12 (Nat.le_refl _) (Nat.le_refl _) (Nat.le_refl _) hr), by omega, ?_, fun _ => ⟨rfl, rfl⟩, fun e => ?_⟩
            · rw [zA_I, zA_A, if_neg (by omega), zA_A, if_neg (by omega), zA_A, if_pos ⟨rfl, rfl⟩]
            · rw [show isOne (yOne tk.2.2.1, fZ).1 = isOne (yOne tk.2.2.1) from rfl, ho] at e; cases e
          have hF13 := fX_trans hF12 hF3 (Nat.le_refl _) (Nat.le_refl _) (Nat.le_refl _)
          revert hV3 hF13 hr2
          generalize zsI (zsA (zsA (zsA s2 21 t (yOne tk.2.2.1)) 22 t (-1)) 23 t (-1)) 5 6 (nI (t + 1)) = s3
          intro hV3 hr2 hF13
          refine stCome (D := D) hL hn hN hG (by omega) hV3 hB2 ?_ ?_
          · intro t1 hcm hV4 hF4 hB4 hpl
            simp only [hcm, xb_k] at h0 hok her
            have hF14 := fX_trans hF13 hF4 (Nat.le_refl _) (Nat.le_refl _) (by omega)
            have hr4 := rOc_fX hL.1 hF4 (Nat.le_refl _) (Nat.le_refl _) (Nat.le_refl _) hr2
            revert hV4 hF14 hr4
            generalize cS x n tk.1 s3 = s4
            intro hV4 hF14 hr4
            have hq1 := hB4.1.1
            rw [bnd_e, nI_1]
            refine ih m ((yOne tk.2.2.1, fZ) :: l) t1 c1 (ns + 1) (t + 1) (D + 1) s4 hV4 ⟨hB4.1, hB4.2.1, b3, hB4.2.2.2.1, by omega, b6⟩ (by rw [List.length_cons]; omega) (by omega) (fun o hm2 => ?_) hr4 (by omega) (by omega) h0 ?_ ?_
            · rcases List.mem_cons.mp hm2 with e | e
              · rw [e]; exact ⟨ho, rfl⟩
              · exact hl o e
            · intro l' ns' tk' c' t' D' z hres h1 h2 h3 h4 h5 hV hB' hF hr' hpl' hno
              rw [List.length_cons] at h1 h2 h3 h4
              exact hok l' ns' tk' c' t' D' z hres (by omega) (by omega) (by omega) (by omega) h5 hV hB' (fX_trans hF14 hF (Nat.le_refl _) (Nat.le_refl _) (by omega)) hr' (by omega) hno
            · intro e z hres he0 hd hf
              exact her e z hres he0 hd (fR_trans (fX_R hL.1 hF14) hf)
          · intro e z hcm he0 hE
            simp only [hcm, xb_e] at her
            exact dead e z hE.1 (fR_trans (fX_R hL.1 hF13) hE.2) (fun y hd hf => her e y rfl he0 hd hf)
        · intro e z hfo he0 hE
          simp only [hfo, xb_e] at her
          refine wp_obd (wp_mono (pushD hL hE.1) (fun _ u hu => ?_))
          rw [comeD hu.1, obd_s]
          exact dead e u hu.1 (fR_trans (fX_R hL.1 hF1) (fR_trans hE.2 hu.2)) (fun y hd hf => her e y rfl he0 hd hf)
      · intro e z hen he0 hE
        simp only [hen, xb_e] at her
        refine wp_obd (wp_mono (takeD hL.1 hE.1) (fun _ w hw => wp_obd (wp_mono (pushD hL hw.1) (fun _ u hu => ?_))))
        rw [comeD hu.1, obd_s]
        exact dead e u hu.1 (fR_trans hE.2 (fR_trans hw.2 hu.2)) (fun y hd hf => her e y rfl he0 hd hf)
    · rw [if_neg ho] at h0 hok her
      have hend : wp (some ((), σ)) Q := wp_s (hok l ns tk c t D σ rfl rfl (by omega) (by omega) (Nat.le_refl _) hl h hB0 fX_refl hr (Nat.le_refl _) ho)
      by_cases c1 : yOne tk.2.2.1 < 24
      · rw [if_pos c1]; exact hend
      · rw [if_neg c1]
        by_cases c2 : yOne tk.2.2.1 ≤ 26
        · exfalso
          apply ho
          unfold isOne
          rw [decide_eq_true_eq]
          rw [Int32.lt_iff_toInt_lt] at c1
          rw [Int32.le_iff_toInt_le] at c2
          have e24 : (24 : Int32).toInt = 24 := rfl
          have e26 : (26 : Int32).toInt = 26 := rfl
          have : (yOne tk.2.2.1).toInt = 24 ∨ (yOne tk.2.2.1).toInt = 25 ∨ (yOne tk.2.2.1).toInt = 26 := by omega
          rcases this with e | e | e
          · exact Or.inl (Int32.toInt_inj.mp e)
          · exact Or.inr (Or.inl (Int32.toInt_inj.mp e))
          · exact Or.inr (Or.inr (Int32.toInt_inj.mp e))
        · rw [if_neg c2]; exact hend
end
