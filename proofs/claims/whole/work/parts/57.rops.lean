/-! THE REFERENCE'S READER: signs that wait -/
def rng (l h : Nat) : Nat → Prop := fun j => l ≤ j ∧ j < h
def opK (s : Int32) : Int32 := if s = 9 then 8 else if s = 8 then 7 else 6
def opV (s : Int32) : Int32 := if s = 8 ∨ s = 9 then 28 else s
def rOps (τ : zSt) (b lo : Nat) : yOps → Nat → Nat → Prop
  | [], w, l => w = b ∧ l = lo
  | o :: r, w, l => ∃ w' l' m, w = w' + 1 ∧ rOps τ b lo r w' l' ∧ l' ≤ m ∧ l = m + 1 ∧ m < 4200 ∧ zA τ 30 w' = nI m ∧ zA τ 17 m = -1 ∧ zA τ 18 m = -1 ∧ zA τ 20 m = 0 ∧ zA τ 21 m = -1 ∧
      (if isOne o.1 = true then zA τ 29 w' = 4 ∧ zA τ 15 m = 5 ∧ zA τ 19 m = o.1 ∧ l' = m
       else zA τ 29 w' = 5 ∧ zA τ 31 w' = nI (rk o.1) - 1 ∧ zA τ 15 m = opK o.1 ∧ zA τ 19 m = opV o.1 ∧ rep τ o.2 l' m (zA τ 16 m))
theorem rOps_le {τ : zSt} {b lo : Nat} : ∀ {ops : yOps} {w l : Nat}, rOps τ b lo ops w l → b ≤ w ∧ lo ≤ l ∧ w = b + ops.length := by
  intro ops
  induction ops with
  | nil => rintro w l ⟨rfl, rfl⟩; exact ⟨Nat.le_refl _, Nat.le_refl _, rfl⟩
  | cons o r ih =>
    rintro w l ⟨w', l', m, rfl, h, h2, rfl, -⟩
    have := ih h
    exact ⟨by omega, by omega, by rw [List.length_cons]; omega⟩
theorem rOps_frame {τ u : zSt} {b lo : Nat} : ∀ {ops : yOps} {w l : Nat}, (∀ a i, 29 ≤ a → a ≤ 31 → b ≤ i → i < w → zA u a i = zA τ a i) → (∀ a m, 15 ≤ a → a ≤ 21 → lo ≤ m → m < l → zA u a m = zA τ a m) → rOps τ b lo ops w l → rOps u b lo ops w l := by
  intro ops
  induction ops with
  | nil => intro w l _ _ h; exact h
  | cons o r ih =>
    rintro w l f1 f2 ⟨w', l', m, rfl, h, h2, rfl, h3, h4, h5, h6, h7, h7b, h8⟩
    have hl := rOps_le h
    refine ⟨w', l', m, rfl, ih (fun a i q1 q2 q3 q4 => f1 a i q1 q2 q3 (by omega)) (fun a i q1 q2 q3 q4 => f2 a i q1 q2 q3 (by omega)) h, h2, rfl, h3, ?_, ?_, ?_, ?_, ?_, ?_⟩
    · rw [f1 30 w' (by omega) (by omega) (by omega) (by omega)]; exact h4
    · rw [f2 17 m (by omega) (by omega) (by omega) (by omega)]; exact h5
    · rw [f2 18 m (by omega) (by omega) (by omega) (by omega)]; exact h6
    · rw [f2 20 m (by omega) (by omega) (by omega) (by omega)]; exact h7
    · rw [f2 21 m (by omega) (by omega) (by omega) (by omega)]; exact h7b
    · rw [f1 29 w' (by omega) (by omega) (by omega) (by omega), f1 31 w' (by omega) (by omega) (by omega) (by omega), f2 15 m (by omega) (by omega) (by omega) (by omega), f2 19 m (by omega) (by omega) (by omega) (by omega), f2 16 m (by omega) (by omega) (by omega) (by omega)]
      split
      · rename_i q; rw [if_pos q] at h8; exact h8
      · rename_i q; rw [if_neg q] at h8
        exact ⟨h8.1, h8.2.1, h8.2.2.1, h8.2.2.2.1, rep_frame _ _ _ _ (fun j hj => ⟨hj, fun a q1 q2 => f2 a j q1 q2 (by have := hj.1; omega) (by have := hj.2; omega)⟩) h8.2.2.2.2⟩
/-- token, what is wrong, cells, nodes are the same -/
def sameT (τ u : zSt) : Prop := zI u 0 17 = zI τ 0 17 ∧ zI u 0 18 = zI τ 0 18 ∧ zI u 0 19 = zI τ 0 19 ∧ zI u 0 21 = zI τ 0 21 ∧ zI u 0 36 = zI τ 0 36 ∧ zI u 0 38 = zI τ 0 38 ∧ zL u 0 20 = zL τ 0 20
theorem sameT_trans {τ u v : zSt} (h : sameT τ u) (h2 : sameT u v) : sameT τ v := ⟨h2.1.trans h.1, h2.2.1.trans h.2.1, h2.2.2.1.trans h.2.2.1, h2.2.2.2.1.trans h.2.2.2.1, h2.2.2.2.2.1.trans h.2.2.2.2.1, h2.2.2.2.2.2.1.trans h.2.2.2.2.2.1, h2.2.2.2.2.2.2.trans h.2.2.2.2.2.2⟩
theorem rT_same {tk : yTok} {τ u : zSt} (h : sameT τ u) (h2 : rT tk τ) : rT tk u := by
  obtain ⟨a1, a2, a3, a4, a5, a6, a7⟩ := h
  obtain ⟨b1, b2, b3, b4, b5⟩ := h2
  exact ⟨a1.trans b1, a2.trans b2, a7.trans b3, by rw [a3]; exact b4, by rw [a3]; exact b5⟩
theorem onN_rep {τ : zSt} {s : Int32} {A : fT} {m hi : Nat} (hm : m < 4200) (hP : m + 1 ≤ hi) (h1 : zA τ 15 m = 5) (h2 : zA τ 19 m = s) (h3 : zA τ 20 m = 0) (h4 : zA τ 17 m = -1) (h5 : zA τ 18 m = -1) (h6 : rep τ A (m + 1) hi (zA τ 16 m)) : rep τ (onN s A) m hi (nI m) := by
  unfold onN
  exact rep_1 rfl (by decide) hm h1 (by rw [h2, Int32.ofInt_toInt]) h3 hP h6 h4 h5
theorem opN_rep {τ : zSt} {s : Int32} {A B : fT} {lo m hi : Nat} (hm : m < 4200) (hP : lo ≤ m ∧ m < hi) (h1 : zA τ 15 m = opK s) (h2 : zA τ 19 m = opV s) (h3 : zA τ 20 m = 0) (h5 : zA τ 18 m = -1) (h6 : rep τ A lo m (zA τ 16 m)) (h7 : rep τ B (m + 1) hi (zA τ 17 m)) : rep τ (opN s A B) lo hi (nI m) := by
  unfold opN
  unfold opK at h1
  unfold opV at h2
  by_cases e9 : s = 9
  · rw [if_pos e9] at h1 ⊢
    rw [if_pos (Or.inr e9)] at h2
    exact rep_T rfl (by decide) hm hP.1 hP.2 h1 h2 h3 h6 h7 h5
  · rw [if_neg e9] at h1 ⊢
    by_cases e8 : s = 8
    · rw [if_pos e8] at h1 ⊢
      rw [if_pos (Or.inl e8)] at h2
      exact rep_T rfl (by decide) hm hP.1 hP.2 h1 h2 h3 h6 h7 h5
    · rw [if_neg e8] at h1 ⊢
      rw [if_neg (by rintro (q | q); exact e8 q; exact e9 q)] at h2
      exact rep_T rfl (by decide) hm hP.1 hP.2 h1 (by rw [h2, Int32.ofInt_toInt]) h3 h6 h7 h5
/-- the ones that wait go -/
theorem popO {N b lo : Nat} {k2 : Int32 → zSt → Option (Int32 × zSt)} {ops : yOps} : ∀ (l : yOps) (t : fT) (i0 : Nat) (τ : zSt) (w lw nd ns f : Nat), (∀ o ∈ l, isOne o.1 = true) → rOps τ b lo (l ++ ops) w lw → zI τ 0 54 = nI w → w ≤ 1300 → zI τ 0 37 = nI (ns + l.length) → i0 < 4200 → lw ≤ nd →
    ∃ i1 u w2 l2, fX12_works_b28 N k2 (f + l.length) (nI i0) τ = fX12_works_b28 N k2 f (nI i1) u ∧ i1 < 4200 ∧ rOps u b lo ops w2 l2 ∧ l2 ≤ nd ∧ zI u 0 54 = nI w2 ∧ w2 ≤ w ∧ zI u 0 37 = nI ns ∧ sameT τ u ∧ fE lo b τ u ∧ (rep τ t lw nd (nI i0) → rep u (wrap l t) l2 nd (nI i1)) ∧ (zA τ 21 i0 = -1 → zA u 21 i1 = -1) := by
  intro l
  induction l with
  | nil =>
    intro t i0 τ w lw nd ns f _ h h54 hw h37 hi hl
    exact ⟨i0, τ, w, lw, rfl, hi, h, hl, h54, Nat.le_refl _, h37, ⟨rfl, rfl, rfl, rfl, rfl, rfl, rfl⟩, fE_refl, id, id⟩
  | cons o l ih =>
    intro t i0 τ w lw nd ns f ho h h54 hw h37 hi hl
    obtain ⟨w', l', m, rfl, h1, h2, rfl, h3, h4, h5, h6, h7, h7b, h8⟩ := h
    rw [if_pos (ho o (List.mem_cons_self ..))] at h8
    obtain ⟨a1, a2, a3, a4⟩ := h8
    have hle := rOps_le h1
    rw [List.length_cons] at h37 ⊢
    have e1 : fX12_works_b28 N k2 (f + (l.length + 1)) (nI i0) τ = fX12_works_b28 N k2 (f + l.length) (nI m) (zsA (zsI (zsI τ 0 54 (nI w')) 0 37 (nI (ns + l.length))) 16 m (nI i0)) := by
      rw [show f + (l.length + 1) = (f + l.length) + 1 by omega, fX12_works_b28]
      rw [show ns + (l.length + 1) = (ns + l.length) + 1 by omega] at h37
      simp (disch := omega) only [h54, a1, nIneg, nI_clamp, leF, or_false, false_or, or_self, if_false, reduceIte, nI_1, nI_pred, bnd_e, obd_s, zI_I, zI_L, zI_R, zI_A, zI_B, zL_I, zL_L, zL_R, zL_A, zL_B, zA_I, zA_L, zA_R, zA_A, zA_B, zB_I, zB_L, zB_R, zB_A, zB_B, reduceIte, Nat.reduceEqDiff, Nat.reduceEqDiff, false_and, and_false, true_and, and_true, ne_eq, not_false_eq_true, not_true_eq_false, h37, h4]
    have hr : rOps (zsA (zsI (zsI τ 0 54 (nI w')) 0 37 (nI (ns + l.length))) 16 m (nI i0)) b lo (l ++ ops) w' l' := by
      refine rOps_frame (fun a i q1 q2 q3 q4 => ?_) (fun a j q1 q2 q3 q4 => ?_) h1
      · rw [zA_A, if_neg (by omega)]; rfl
      · rw [zA_A, if_neg (by omega)]; rfl
    obtain ⟨i1, u, w2, l2, b1, b2, b3, b4, b5, b6, b7, b8, b9, b10, b11⟩ := ih (onN o.1 t) m _ w' l' nd ns f (fun q hq => ho q (List.mem_cons_of_mem _ hq)) hr (by simp only [zI_I, zI_L, zI_R, zI_A, zI_B, zL_I, zL_L, zL_R, zL_A, zL_B, zA_I, zA_L, zA_R, zA_A, zA_B, zB_I, zB_L, zB_R, zB_A, zB_B, reduceIte, Nat.reduceEqDiff, Nat.reduceEqDiff, false_and, and_false, true_and, and_true, ne_eq, not_false_eq_true, not_true_eq_false]) (by omega) (by simp only [zI_I, zI_L, zI_R, zI_A, zI_B, zL_I, zL_L, zL_R, zL_A, zL_B, zA_I, zA_L, zA_R, zA_A, zA_B, zB_I, zB_L, zB_R, zB_A, zB_B, reduceIte, Nat.reduceEqDiff, Nat.reduceEqDiff, false_and, and_false, true_and, and_true, ne_eq, not_false_eq_true, not_true_eq_false]) h3 (by omega)
    refine ⟨i1, u, w2, l2, e1.trans b1, b2, b3, b4, b5, by omega, b7, sameT_trans ⟨?_, ?_, ?_, ?_, ?_, ?_, ?_⟩ b8, fE_trans (fE_A (fE_I (fE_I fE_refl (by omega)) (by omega)) (by omega)) b9 (Nat.le_refl _) (Nat.le_refl _), fun hr2 => b10 ?_, fun _ => b11 ?_⟩
    iterate 7 simp only [zI_I, zI_L, zI_R, zI_A, zI_B, zL_I, zL_L, zL_R, zL_A, zL_B, zA_I, zA_L, zA_R, zA_A, zA_B, zB_I, zB_L, zB_R, zB_A, zB_B, reduceIte, Nat.reduceEqDiff, Nat.reduceEqDiff, false_and, and_false, true_and, and_true, ne_eq, not_false_eq_true, not_true_eq_false]
    rw [a4]
    refine onN_rep h3 (by omega) ?_ ?_ ?_ ?_ ?_ ?_
    iterate 5 simp only [zI_I, zI_L, zI_R, zI_A, zI_B, zL_I, zL_L, zL_R, zL_A, zL_B, zA_I, zA_L, zA_R, zA_A, zA_B, zB_I, zB_L, zB_R, zB_A, zB_B, reduceIte, Nat.reduceEqDiff, Nat.reduceEqDiff, false_and, and_false, true_and, and_true, ne_eq, not_false_eq_true, not_true_eq_false]; assumption
    rw [zA_A, if_pos ⟨rfl, rfl⟩]
    refine rep_frame _ _ _ _ (fun j hj => ⟨hj, fun a _ _ => ?_⟩) hr2
    rw [zA_A, if_neg (by have := hj.1; omega)]
    rfl
    rw [zA_A, if_neg (by omega)]
    exact h7b
theorem rk_cmp (s : Int32) (k : Nat) (hk : k ≤ 10) : (nI (rk s) - 1 < nI k - 1) ↔ rk s < k := by
  have fin : ∀ a : Nat, a ≤ 10 → ∀ k : Nat, k ≤ 10 → ((nI a - 1 < nI k - 1) ↔ a < k) := by decide +kernel
  exact fin _ (rk_le s) k hk
/-- signs of two parts get their second one -/
theorem secR {N b lo k : Nat} (hk : k ≤ 10) (hN : 2000 ≤ N) (hb : ∀ (τ : zSt), True) : ∀ (ops : yOps) (t : fT) (i0 : Nat) (τ : zSt) (w lw nd f : Nat), (∀ o ∈ ops, 0 < rk o.1) → rOps τ b lo ops w lw → zI τ 0 54 = nI w → 1 ≤ b → w ≤ 1300 → zA τ 29 (b - 1) ≠ 5 → i0 < 4200 → lw ≤ nd → ops.length < f →
    ∃ i1 u w2 l2, fX12_second_b2 N f (nI k - 1) (nI i0) τ = some (nI i1, u) ∧ i1 < 4200 ∧ rOps u b lo (jnA k ops t).1 w2 l2 ∧ l2 ≤ nd ∧ zI u 0 54 = nI w2 ∧ w2 ≤ w ∧ zI u 0 37 = zI τ 0 37 ∧ sameT τ u ∧ fE lo b τ u ∧ (rep τ t lw nd (nI i0) → rep u (jnA k ops t).2 l2 nd (nI i1)) ∧ (zA τ 21 i0 = -1 → zA u 21 i1 = -1) := by
  intro ops
  induction ops with
  | nil =>
    rintro t i0 τ w lw nd f - ⟨rfl, rfl⟩ h54 hb1 hw hop hi hl hf
    refine ⟨i0, τ, w, lw, ?_, hi, ⟨rfl, rfl⟩, hl, h54, Nat.le_refl _, rfl, ⟨rfl, rfl, rfl, rfl, rfl, rfl, rfl⟩, fE_refl, id, id⟩
    obtain ⟨f, rfl⟩ : ∃ g, f = g + 1 := ⟨f - 1, by simp at hf; omega⟩
    obtain ⟨b', rfl⟩ : ∃ g, w = g + 1 := ⟨w - 1, by omega⟩
    rw [fX12_second_b2]
    simp only [Nat.add_sub_cancel] at hop
    simp (disch := omega) only [h54, nIneg, nI_clamp, leF, or_false, false_or, or_self, if_false, reduceIte, nI_1, nI_pred, bnd_e, obd_s, hop]
  | cons o r ih =>
    rintro t i0 τ w lw nd f ho ⟨w', l', m, rfl, h1, h2, rfl, h3, h4, h5, h6, h7, h7b, h8⟩ h54 hb1 hw hop hi hl hf
    have hp := ho o (List.mem_cons_self ..)
    have hone : ¬ isOne o.1 = true := fun q => by rw [isOne_rk q] at hp; omega
    rw [if_neg hone] at h8
    obtain ⟨a1, a2, a3, a4, a5⟩ := h8
    have hle := rOps_le h1
    rw [List.length_cons] at hf
    obtain ⟨f, rfl⟩ : ∃ g, f = g + 1 := ⟨f - 1, by omega⟩
    by_cases hlt : rk o.1 < k
    · have ej : jnA k (o :: r) t = (o :: r, t) := by rw [jnA, if_pos hlt]
      rw [ej]
      refine ⟨i0, τ, w' + 1, m + 1, ?_, hi, ⟨w', l', m, rfl, h1, h2, rfl, h3, h4, h5, h6, h7, h7b, ?_⟩, hl, h54, Nat.le_refl _, rfl, ⟨rfl, rfl, rfl, rfl, rfl, rfl, rfl⟩, fE_refl, id, id⟩
      · rw [fX12_second_b2]
        simp (disch := omega) only [h54, nIneg, nI_clamp, leF, or_false, false_or, or_self, if_false, reduceIte, nI_1, nI_pred, bnd_e, obd_s, a1, a2]
        rw [if_pos ((rk_cmp o.1 k hk).mpr hlt)]
      · rw [if_neg hone]
        exact ⟨a1, a2, a3, a4, a5⟩
    · have ej : jnA k (o :: r) t = jnA k r (opN o.1 o.2 t) := by rw [jnA, if_neg hlt]
      rw [ej]
      have e1 : fX12_second_b2 N (f + 1) (nI k - 1) (nI i0) τ = fX12_second_b2 N f (nI k - 1) (nI m) (zsA (zsI τ 0 54 (nI w')) 17 m (nI i0)) := by
        rw [fX12_second_b2]
        simp (disch := omega) only [h54, nIneg, nI_clamp, leF, or_false, false_or, or_self, if_false, reduceIte, nI_1, nI_pred, bnd_e, obd_s, a1, a2]
        rw [if_neg (fun q => hlt ((rk_cmp o.1 k hk).mp q))]
        simp (disch := omega) only [nIneg, nI_clamp, leF, or_false, false_or, or_self, if_false, reduceIte, nI_1, nI_pred, bnd_e, obd_s, zI_I, zI_L, zI_R, zI_A, zI_B, zL_I, zL_L, zL_R, zL_A, zL_B, zA_I, zA_L, zA_R, zA_A, zA_B, zB_I, zB_L, zB_R, zB_A, zB_B, reduceIte, Nat.reduceEqDiff, Nat.reduceEqDiff, false_and, and_false, true_and, and_true, ne_eq, not_false_eq_true, not_true_eq_false, h4]
      have hr : rOps (zsA (zsI τ 0 54 (nI w')) 17 m (nI i0)) b lo r w' l' := by
        refine rOps_frame (fun a i q1 q2 q3 q4 => ?_) (fun a j q1 q2 q3 q4 => ?_) h1
        · rw [zA_A, if_neg (by omega)]; rfl
        · rw [zA_A, if_neg (by omega)]; rfl
      obtain ⟨i1, u, w2, l2, b1, b2, b3, b4, b5, b6, b7, b8, b9, b10, b11⟩ := ih (opN o.1 o.2 t) m _ w' l' nd f (fun q hq => ho q (List.mem_cons_of_mem _ hq)) hr (by simp only [zI_I, zI_L, zI_R, zI_A, zI_B, zL_I, zL_L, zL_R, zL_A, zL_B, zA_I, zA_L, zA_R, zA_A, zA_B, zB_I, zB_L, zB_R, zB_A, zB_B, reduceIte, Nat.reduceEqDiff, Nat.reduceEqDiff, false_and, and_false, true_and, and_true, ne_eq, not_false_eq_true, not_true_eq_false]) hb1 (by omega) (by rw [zA_A, if_neg (by omega)]; exact hop) h3 (by omega) (by omega)
      refine ⟨i1, u, w2, l2, e1.trans b1, b2, b3, b4, b5, by omega, b7, sameT_trans ⟨?_, ?_, ?_, ?_, ?_, ?_, ?_⟩ b8, fE_trans (fE_A (fE_I fE_refl (by omega)) (by omega)) b9 (Nat.le_refl _) (Nat.le_refl _), fun hr2 => b10 ?_, fun _ => b11 ?_⟩
      iterate 7 simp only [zI_I, zI_L, zI_R, zI_A, zI_B, zL_I, zL_L, zL_R, zL_A, zL_B, zA_I, zA_L, zA_R, zA_A, zA_B, zB_I, zB_L, zB_R, zB_A, zB_B, reduceIte, Nat.reduceEqDiff, Nat.reduceEqDiff, false_and, and_false, true_and, and_true, ne_eq, not_false_eq_true, not_true_eq_false]
      refine opN_rep h3 ⟨h2, by omega⟩ ?_ ?_ ?_ ?_ ?_ ?_
      iterate 4 simp only [zI_I, zI_L, zI_R, zI_A, zI_B, zL_I, zL_L, zL_R, zL_A, zL_B, zA_I, zA_L, zA_R, zA_A, zA_B, zB_I, zB_L, zB_R, zB_A, zB_B, reduceIte, Nat.reduceEqDiff, Nat.reduceEqDiff, false_and, and_false, true_and, and_true, ne_eq, not_false_eq_true, not_true_eq_false]; assumption
      · rw [zA_A, if_neg (by omega)]
        refine rep_frame _ _ _ _ (fun j hj => ⟨hj, fun a _ _ => ?_⟩) a5
        rw [zA_A, if_neg (by have := hj.2; omega)]
        rfl
      · rw [zA_A, if_pos ⟨rfl, rfl⟩]
        refine rep_frame _ _ _ _ (fun j hj => ⟨hj, fun a _ _ => ?_⟩) hr2
        rw [zA_A, if_neg (by have := hj.1; omega)]
        rfl
      · rw [zA_A, if_neg (by omega)]
        exact h7b
