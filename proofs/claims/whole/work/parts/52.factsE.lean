/-! FACTS of an E -/
def gOk (gs : Nat) (G : gE) : Prop := ∀ g, g < G.2.2.2.2 → (G.2.1 g = 0 ∧ 0 ≤ (G.2.2.1 g).toInt ∧ (G.2.2.1 g).toInt < gs) ∨ (G.2.1 g = 1 ∧ 0 ≤ (G.2.2.1 g).toInt ∧ 1 ≤ (G.2.2.2.1 g).toInt ∧ (G.2.2.1 g).toInt + (G.2.2.2.1 g).toInt ≤ gs) ∨ (G.2.1 g = 2 ∧ ∃ m : Nat, m ≤ 8 ∧ G.2.2.2.1 g = nI m)
def lOk (np K : Nat) (L : lE) : Prop := ∀ j, j < L.2.2 → plOk np K (L.2.1 j).toInt
def eQ (n tc : Nat) (G : gE) (gs np K : Nat) (tk : yTok) (cl : Int32) (u : fT × yTok × Nat) : Prop := wf G gs np K u.1 0 0 ∧ tkO n u.2.1 ∧ tk.2.1 < u.2.1.2.1 ∧ u.2.2 ≤ tc ∧ yEnds cl u.2.1.2.2.1 = true
def rQ (n tc : Nat) (G : gE) (gs np K d : Nat) (R : yRec) : Prop := ∀ ns cl tk c, tkO n tk → ns ≤ 40 → 41 ≤ d + ns → c ≤ tc → sat (R ns cl tk c) (eQ n tc G gs np K tk cl)
theorem rk_in {s : Int32} (h : 0 < rk s) : s = 8 ∨ s = 9 ∨ s = 10 ∨ s = 11 ∨ s = 12 ∨ s = 13 ∨ s = 14 ∨ s = 15 ∨ s = 16 ∨ s = 17 ∨ s = 18 ∨ s = 19 ∨ s = 20 ∨ s = 21 ∨ s = 22 ∨ s = 23 ∨ s = 27 ∨ s = 28 := by
  by_cases e8 : s = 8
  · simp only [e8, true_or, or_true]
  by_cases e9 : s = 9
  · simp only [e9, true_or, or_true]
  by_cases e10 : s = 10
  · simp only [e10, true_or, or_true]
  by_cases e11 : s = 11
  · simp only [e11, true_or, or_true]
  by_cases e12 : s = 12
  · simp only [e12, true_or, or_true]
  by_cases e13 : s = 13
  · simp only [e13, true_or, or_true]
  by_cases e14 : s = 14
  · simp only [e14, true_or, or_true]
  by_cases e15 : s = 15
  · simp only [e15, true_or, or_true]
  by_cases e16 : s = 16
  · simp only [e16, true_or, or_true]
  by_cases e17 : s = 17
  · simp only [e17, true_or, or_true]
  by_cases e18 : s = 18
  · simp only [e18, true_or, or_true]
  by_cases e19 : s = 19
  · simp only [e19, true_or, or_true]
  by_cases e20 : s = 20
  · simp only [e20, true_or, or_true]
  by_cases e21 : s = 21
  · simp only [e21, true_or, or_true]
  by_cases e22 : s = 22
  · simp only [e22, true_or, or_true]
  by_cases e23 : s = 23
  · simp only [e23, true_or, or_true]
  by_cases e27 : s = 27
  · simp only [e27, true_or, or_true]
  by_cases e28 : s = 28
  · simp only [e28, true_or, or_true]
  exfalso
  unfold rk at h
  simp only [e8, e9, e10, e11, e12, e13, e14, e15, e16, e17, e18, e19, e20, e21, e22, e23, e27, e28, or_self, if_false] at h
  omega
theorem rk_le (s : Int32) : rk s ≤ 10 := by
  unfold rk
  repeat' split
  all_goals omega
theorem opN_wf {G : gE} {gs np K : Nat} {s : Int32} {A B : fT} (h : 0 < rk s) (hA : wf G gs np K A 0 0) (hB : wf G gs np K B 0 0) : wf G gs np K (opN s A B) 0 0 := by
  rcases rk_in h with rfl | rfl | rfl | rfl | rfl | rfl | rfl | rfl | rfl | rfl | rfl | rfl | rfl | rfl | rfl | rfl | rfl | rfl
  · exact (wf_N (k := 7)).symm ▸ ⟨hA, hB⟩
  · exact (wf_N (k := 8)).symm ▸ ⟨hA, hB⟩
  all_goals exact (wf_N (k := 6)).symm ▸ ⟨hA, hB, by decide⟩
theorem onN_wf {G : gE} {gs np K : Nat} {s : Int32} {A : fT} (h : isOne s = true) (hA : wf G gs np K A 0 0) : wf G gs np K (onN s A) 0 0 := by
  unfold isOne at h
  rw [decide_eq_true_eq] at h
  rcases h with rfl | rfl | rfl
  all_goals exact (wf_N (k := 5)).symm ▸ ⟨hA, by decide⟩
def opsT (G : gE) (gs np K : Nat) (ops : yOps) : Prop := ∀ o ∈ ops, 0 < rk o.1 ∧ wf G gs np K o.2 0 0
theorem isOne_rk {s : Int32} (h : isOne s = true) : rk s = 0 := by
  unfold isOne at h
  rw [decide_eq_true_eq] at h
  rcases h with rfl | rfl | rfl <;> decide
/-- the ones that wait above, wrapped around a part -/
def wrap : yOps → fT → fT
  | [], t => t
  | o :: r, t => wrap r (onN o.1 t)
theorem clO_app {ops : yOps} (h : ∀ o ∈ ops, 0 < rk o.1) : ∀ (l : yOps) (t : fT), (∀ o ∈ l, isOne o.1 = true) → clO (l ++ ops) t = (ops, wrap l t) := by
  intro l
  induction l with
  | nil =>
    intro t _
    cases ops with
    | nil => rfl
    | cons o r =>
      have h1 := h o (List.mem_cons_self ..)
      have h2 : ¬ isOne o.1 = true := fun q => by rw [isOne_rk q] at h1; omega
      show clO (o :: r) t = _
      rw [clO, if_neg h2]
      rfl
  | cons a l ih =>
    intro t hl
    show clO (a :: (l ++ ops)) t = _
    rw [clO, if_pos (hl a (List.mem_cons_self ..)), ih _ (fun o ho => hl o (List.mem_cons_of_mem _ ho))]
    rfl
theorem wrap_wf {G : gE} {gs np K : Nat} : ∀ (l : yOps) (t : fT), (∀ o ∈ l, isOne o.1 = true) → wf G gs np K t 0 0 → wf G gs np K (wrap l t) 0 0 := by
  intro l
  induction l with
  | nil => intro t _ h; exact h
  | cons a l ih => intro t hl h; exact ih _ (fun o ho => hl o (List.mem_cons_of_mem _ ho)) (onN_wf (hl a (List.mem_cons_self ..)) h)
theorem jnA_wf {G : gE} {gs np K k : Nat} : ∀ (ops : yOps) (t : fT), opsT G gs np K ops → wf G gs np K t 0 0 → opsT G gs np K (jnA k ops t).1 ∧ wf G gs np K (jnA k ops t).2 0 0 := by
  intro ops
  induction ops with
  | nil => intro t h ht; exact ⟨h, ht⟩
  | cons o r ih =>
    intro t h ht
    unfold jnA
    split
    · exact ⟨h, ht⟩
    · have h1 := h o (List.mem_cons_self ..)
      exact ih _ (fun q hq => h q (List.mem_cons_of_mem _ hq)) (opN_wf h1.1 h1.2 ht)
theorem tk_ne {n : Nat} {t : yTok} (h : tkO n t) {k : Int32} (e : t.2.2.1 = k) (hk : k ≠ 58) : t.2.1 < t.1 := by
  rcases h.2.2.1 with q | q
  · exact (hk (e.symm.trans q)).elim
  · exact q
theorem yOpen_ok {x : Nat → Int32} {n tc : Nat} (hn : n ≤ 4096) : ∀ (f : Nat) (ops : yOps) (ns : Nat) (tk : yTok) (c : Nat), tkO n tk → ns ≤ 40 → 41 ≤ f + ns → c ≤ tc →
    sat (yOpen x n tc f ops ns tk c) (fun u => (∃ l : yOps, u.1 = l ++ ops ∧ (∀ o ∈ l, isOne o.1 = true ∧ o.2 = fZ) ∧ u.2.1 = ns + l.length) ∧ u.2.1 ≤ 40 ∧ tkO n u.2.2.1 ∧ tk.2.1 ≤ u.2.2.1.2.1 ∧ u.2.2.2 ≤ tc ∧ isOne (yOne u.2.2.1.2.2.1) = false) := by
  intro f
  induction f with
  | zero => intro ops ns tk c _ h1 h2; omega
  | succ f ih =>
    intro ops ns tk c htk hns hf hc
    have hp : tk.2.1 ≤ 4096 := by have := htk.1; have := htk.2.1; omega
    unfold yOpen
    split
    · rename_i h1
      have hlt : tk.2.1 < tk.1 := by
        rcases htk.2.2.1 with q | q
        · rw [q] at h1; exact absurd h1 (by decide)
        · exact q
      refine sat_xb (ne_ok hp hns) (fun _ _ hns1 => sat_xb (fo_ok hp) (fun c1 _ hc1 => sat_xb (cm_ok hn htk.2.1) (fun t1 _ ht1 => ?_)))
      refine sat_mono (ih _ _ _ _ ht1.1 hns1 (by omega) hc1.2) ?_
      rintro u ⟨⟨l, e1, e2, e3⟩, h2, h3, h4, h5, h6⟩
      refine ⟨⟨l ++ [(yOne tk.2.2.1, fZ)], by rw [e1, List.append_assoc]; rfl, ?_, by rw [e3, List.length_append]; simp only [List.length_cons, List.length_nil]; omega⟩, h2, h3, by have := ht1.2; omega, h5, h6⟩
      intro o ho
      rcases List.mem_append.mp ho with q | q
      · exact e2 o q
      · rw [List.mem_singleton.mp q]; exact ⟨h1, rfl⟩
    · rename_i h1
      exact ⟨⟨[], rfl, fun o ho => (List.not_mem_nil ho).elim, rfl⟩, hns, htk, Nat.le_refl _, hc, Bool.not_eq_true _ ▸ h1⟩
theorem yParts_ok {x : Nat → Int32} {n tc : Nat} {G : gE} {gs np K d : Nat} {R : yRec} (hn : n ≤ 4096) (hR : rQ n tc G gs np K d R) : ∀ (f : Nat) (ns : Nat) (tk : yTok) (c : Nat), tkO n tk → ns ≤ 40 → 41 ≤ d + ns → c ≤ tc → n + 1 ≤ f + tk.2.1 →
    sat (yParts x n R f ns tk c) (fun u => wf G gs np K u.1 3 u.2.1 ∧ tkO n u.2.2.1 ∧ (tk.2.1 + u.2.1 ≤ u.2.2.1.2.1 ∧ 1 ≤ u.2.1) ∧ u.2.2.2 ≤ tc ∧ u.2.2.1.2.2.1 = 50) := by
  intro f
  induction f with
  | zero => intro ns tk c htk _ _ _ h; have := htk.1; have := htk.2.1; omega
  | succ f ih =>
    intro ns tk c htk hns hd hc hf
    unfold yParts
    refine sat_xb (hR ns 55 tk c htk hns hd hc) (fun q _ hq => ?_)
    obtain ⟨q1, q2, q3, q4, q5⟩ := hq
    split
    · rename_i e
      have hlt := tk_ne q2 e (by decide)
      refine sat_xb (cm_ok hn q2.2.1) (fun t2 _ ht2 => sat_xb (ih ns t2 q.2.2 ht2.1 hns hd q4 (by have := ht2.2; omega)) (fun u _ hu => ?_))
      refine ⟨?_, hu.2.1, ⟨by have := hu.2.2.1.1; have := ht2.2; show tk.2.1 + (u.2.1 + 1) ≤ u.2.2.1.2.1; omega, by show 1 ≤ u.2.1 + 1; omega⟩, hu.2.2.2.1, hu.2.2.2.2⟩
      rw [wf_C]
      exact ⟨u.2.1, rfl, q1, hu.1⟩
    · rename_i e
      refine ⟨?_, q2, ⟨q3, Nat.le_refl _⟩, q4, ?_⟩
      · rw [wf_C, wf_Z]
        exact ⟨0, rfl, q1, Or.inr (Or.inl ⟨rfl, rfl⟩)⟩
      · unfold yEnds at q5
        rw [decide_eq_true_eq] at q5
        rcases q5 with q5 | q5
        · exact (e q5).elim
        · exact q5.2
theorem look_ok {G : gE} {L : lE} {w : Int64} {q : Nat ⊕ Nat} (h : look G L w = some q) : (∃ j, q = .inl j ∧ j < L.2.2) ∨ (∃ g, q = .inr g ∧ g < G.2.2.2.2) := by
  unfold look at h
  split at h
  · rename_i j e
    cases h
    exact Or.inl ⟨j, rfl, (lkN_lt e).1⟩
  · split at h
    · rename_i g e
      cases h
      exact Or.inr ⟨g, rfl, (lkN_lt e).1⟩
    · cases h
theorem yCall_ok {x : Nat → Int32} {n tc : Nat} {G : gE} {gs np K d : Nat} {R : yRec} (hn : n ≤ 4096) (hR : rQ n tc G gs np K d R) (hG : gOk gs G) {L : lE} {w : Int64} {q : Nat ⊕ Nat} (hq : look G L w = some q) {p ns : Nat} {tk : yTok} {c : Nat} (hp : p ≤ 4096) (htk : tkO n tk) (hk : tk.2.2.1 = 49) (hns : ns ≤ 40) (hd : 40 ≤ d + ns) (hc : c ≤ tc) :
    sat (yCall x n R G q p ns tk c) (fun u => wf G gs np K u.1 0 0 ∧ tkO n u.2.1 ∧ tk.2.1 < u.2.1.2.1 ∧ u.2.2 ≤ tc) := by
  have hp2 : tk.2.1 ≤ 4096 := by have := htk.1; have := htk.2.1; omega
  have hlt := tk_ne htk hk (by decide)
  unfold yCall
  split
  · rename_i hf
    refine sat_xb (ne_ok hp2 hns) (fun _ _ hns1 => sat_xb (cm_ok hn htk.2.1) (fun t2 _ ht2 => ?_))
    refine sat_xb (Q := fun u => wf G gs np K u.1 3 u.2.1 ∧ tkO n u.2.2.1 ∧ t2.2.1 + u.2.1 ≤ u.2.2.1.2.1 ∧ u.2.2.2 ≤ tc ∧ u.2.2.1.2.2.1 = 50) ?_ (fun u _ hu => ?_)
    · split
      · rename_i e
        exact ⟨by rw [wf_Z]; exact Or.inr (Or.inl ⟨rfl, rfl⟩), ht2.1, Nat.le_refl _, hc, e⟩
      · exact sat_mono (yParts_ok hn hR _ _ _ _ ht2.1 hns1 (by omega) hc (by omega)) (fun v hv => ⟨hv.1, hv.2.1, hv.2.2.1.1, hv.2.2.2⟩)
    · split
      · rename_i em
        refine sat_xb (cm_ok hn hu.2.1.2.1) (fun t4 _ ht4 => ?_)
        refine ⟨?_, ht4.1, by have := ht4.2; have := hu.2.1.1; have := hu.2.2.1; have := ht2.2; show tk.2.1 < t4.2.1; omega, hu.2.2.2.1⟩
        rcases look_ok hq with ⟨j, rfl, -⟩ | ⟨g, rfl, hg⟩
        · exact absurd hf (by show ¬ (0 : Int32) = 2; decide)
        · rw [wf_N]
          have hf2 : G.2.1 g = 2 := hf
          have em2 : nI u.2.1 = G.2.2.2.1 g := em
          have h8 : u.2.1 ≤ 8 := by
            rcases hG g hg with ⟨h, -⟩ | ⟨h, -⟩ | ⟨-, m, h1, h2⟩
            · rw [hf2] at h; exact absurd h (by decide)
            · rw [hf2] at h; exact absurd h (by decide)
            · rw [h2] at em2
              have := (nI_eq (by have := hu.2.2.1; have := hu.2.1.1; have := hu.2.1.2.1; omega) (by omega)).mp em2
              omega
          refine ⟨by simp [ixOf], by omega, by omega, ?_, ?_, ?_, ?_⟩
          · simpa using hu.1
          · simpa [ixOf] using hg
          · simpa [ixOf] using hf2
          · simpa [ixOf] using em2.symm
      · exact sat_er erK6 hp
  · exact sat_er erK5 hp
theorem yIndex_ok {x : Nat → Int32} {n tc : Nat} {G : gE} {gs np K d : Nat} {R : yRec} (hn : n ≤ 4096) (hR : rQ n tc G gs np K d R) {q : Nat ⊕ Nat} {p ns : Nat} {tk : yTok} {c : Nat} (hp : p ≤ 4096) (htk : tkO n tk) (hk : tk.2.2.1 = 53) (hns : ns ≤ 40) (hd : 40 ≤ d + ns) (hc : c ≤ tc) :
    sat (yIndex x n R G q p ns tk c) (fun u => wf G gs np K u.1 0 0 ∧ tkO n u.2.1 ∧ tk.2.1 < u.2.1.2.1 ∧ u.2.2 ≤ tc ∧ kdOf G q = 1) := by
  have hp2 : tk.2.1 ≤ 4096 := by have := htk.1; have := htk.2.1; omega
  have hlt := tk_ne htk hk (by decide)
  unfold yIndex
  split
  · rename_i hf
    refine sat_xb (ne_ok hp2 hns) (fun _ _ hns1 => sat_xb (cm_ok hn htk.2.1) (fun t2 _ ht2 => sat_xb (hR _ 54 _ _ ht2.1 hns1 (by omega) hc) (fun u _ hu => sat_xb (cm_ok hn hu.2.1.2.1) (fun t4 _ ht4 => ?_))))
    exact ⟨hu.1, ht4.1, by have := ht4.2; have := hu.2.1.1; have := hu.2.2.1; have := ht2.2; show tk.2.1 < t4.2.1; omega, hu.2.2.2.1, hf⟩
  · exact sat_er erK5 hp
theorem yBr_ok {x : Nat → Int32} {n tc : Nat} {G : gE} {gs np K d : Nat} {R : yRec} (hn : n ≤ 4096) (hR : rQ n tc G gs np K d R) {ns : Nat} {tk : yTok} {c : Nat} (htk : tkO n tk) (hns : ns ≤ 40) (hd : 40 ≤ d + ns) (hc : c ≤ tc) :
    sat (yBr x n R ns tk c) (fun u => wf G gs np K u.1 0 0 ∧ tkO n u.2.1 ∧ tk.2.1 < u.2.1.2.1 ∧ u.2.2 ≤ tc ∧ ns + 1 ≤ 40) := by
  have hp2 : tk.2.1 ≤ 4096 := by have := htk.1; have := htk.2.1; omega
  unfold yBr
  refine sat_xb (need_ok hp2) (fun _ _ hk => sat_xb (ne_ok hp2 hns) (fun _ _ hns1 => sat_xb (cm_ok hn htk.2.1) (fun t2 _ ht2 => sat_xb (hR _ 50 _ _ ht2.1 hns1 (by omega) hc) (fun u _ hu => sat_xb (cm_ok hn hu.2.1.2.1) (fun t4 _ ht4 => ?_)))))
  exact ⟨hu.1, ht4.1, by have := ht4.2; have := hu.2.1.1; have := hu.2.2.1; have := ht2.2; have := htk.1; show tk.2.1 < t4.2.1; omega, hu.2.2.2.1, hns1⟩
theorem yNamed_ok {x : Nat → Int32} {n tc : Nat} {G : gE} {L : lE} {gs np K d : Nat} {R : yRec} (hn : n ≤ 4096) (hR : rQ n tc G gs np K d R) (hG : gOk gs G) (hL : lOk np K L) {ns : Nat} {tk : yTok} {c : Nat} (htk : tkO n tk) (hk : tk.2.2.1 = 40) (hns : ns ≤ 40) (hd : 40 ≤ d + ns) :
    sat (yNamed x n tc R G L ns tk c) (fun u => (u.2.2.2 = none → wf G gs np K u.1 0 0) ∧ tkO n u.2.1 ∧ tk.2.1 < u.2.1.2.1 ∧ u.2.2.1 ≤ tc ∧ (∀ p, u.2.2.2 = some p → p ≤ 4096)) := by
  have hp2 : tk.2.1 ≤ 4096 := by have := htk.1; have := htk.2.1; omega
  have hlt := tk_ne htk hk (by decide)
  unfold yNamed
  split
  · exact sat_er erK3 hp2
  · rename_i q hq
    refine sat_xb (fo_ok hp2) (fun c1 _ hc1 => sat_xb (cm_ok hn htk.2.1) (fun t1 _ ht1 => ?_))
    split
    · rename_i h1
      refine sat_xb (yCall_ok hn hR hG hq hp2 ht1.1 h1 hns hd hc1.2) (fun u _ hu => ?_)
      exact ⟨fun _ => hu.1, hu.2.1, by have := hu.2.2.1; have := ht1.2; show tk.2.1 < u.2.1.2.1; omega, hu.2.2.2, fun p h => by cases h⟩
    · split
      · rename_i h1
        refine sat_xb (yIndex_ok hn hR hp2 ht1.1 h1 hns hd hc1.2) (fun u _ hu => ?_)
        refine ⟨fun _ => ?_, hu.2.1, by have := hu.2.2.1; have := ht1.2; show tk.2.1 < u.2.1.2.1; omega, hu.2.2.2.1, fun p h => by cases h⟩
        rw [wf_N]
        have hs := hu.2.2.2.2
        rcases look_ok hq with ⟨j, rfl, -⟩ | ⟨g, rfl, hg⟩
        · exact absurd hs (by show ¬ (0 : Int32) = 1; decide)
        · rcases hG g hg with ⟨h, -⟩ | ⟨h, a1, a2, a3⟩ | ⟨h, -⟩
          · exact absurd (h.symm.trans hs) (by decide)
          · exact ⟨hu.1, a1, a2, a3⟩
          · exact absurd (h.symm.trans hs) (by decide)
      · refine ⟨?_, ht1.1, by have := ht1.2; show tk.2.1 < t1.2.1; omega, hc1.2, ?_⟩
        · intro hz
          rcases look_ok hq with ⟨j, rfl, hj⟩ | ⟨g, rfl, hg⟩
          · show wf G gs np K (fN 3 _ 0 fZ fZ fZ) 0 0
            rw [wf_N]
            exact hL j hj
          · show wf G gs np K (fN 2 _ 0 fZ fZ fZ) 0 0
            rw [wf_N]
            have hk0 : kdOf G (.inr g) = 0 := by
              by_cases e : kdOf G (.inr g) = 0
              · exact e
              · rw [if_neg e] at hz; cases hz
            rcases hG g hg with ⟨-, h1, h2⟩ | ⟨h, -⟩ | ⟨h, -⟩
            · exact ⟨h1, h2⟩
            · exact absurd (h.symm.trans hk0) (by decide)
            · exact absurd (h.symm.trans hk0) (by decide)
        · intro p h
          split at h
          · cases h
          · cases h; exact hp2
theorem yOper_ok {x : Nat → Int32} {n tc : Nat} {G : gE} {L : lE} {gs np K d : Nat} {R : yRec} (hn : n ≤ 4096) (hR : rQ n tc G gs np K d R) (hG : gOk gs G) (hL : lOk np K L) {ns : Nat} {tk : yTok} {c : Nat} (htk : tkO n tk) (hns : ns ≤ 40) (hd : 40 ≤ d + ns) (hc : c ≤ tc) :
    sat (yOper x n tc R G L ns tk c) (fun u => (u.2.2.2 = none → wf G gs np K u.1 0 0) ∧ tkO n u.2.1 ∧ tk.2.1 < u.2.1.2.1 ∧ u.2.2.1 ≤ tc ∧ (∀ p, u.2.2.2 = some p → p ≤ 4096)) := by
  have hp2 : tk.2.1 ≤ 4096 := by have := htk.1; have := htk.2.1; omega
  unfold yOper
  split
  · rename_i hk
    have hlt := tk_ne htk hk (by decide)
    refine sat_xb (fo_ok hp2) (fun c1 _ hc1 => ?_)
    split
    · exact sat_er erK11 hp2
    · refine sat_xb (cm_ok hn htk.2.1) (fun t1 _ ht1 => ?_)
      exact ⟨fun _ => by rw [wf_N]; exact trivial, ht1.1, by have := ht1.2; show tk.2.1 < t1.2.1; omega, hc1.2, fun p h => by cases h⟩
  · split
    · rename_i hk
      exact yNamed_ok hn hR hG hL htk hk hns hd
    · split
      · rename_i hk
        have hlt := tk_ne htk hk (by decide)
        refine sat_xb (fo_ok hp2) (fun c1 _ hc1 => sat_xb (cm_ok hn htk.2.1) (fun t1 _ ht1 => ?_))
        have hp3 : t1.2.1 ≤ 4096 := by have := ht1.1.1; have := ht1.1.2.1; omega
        refine sat_xb (need_ok hp3) (fun _ _ _ => sat_xb (ne_ok hp3 hns) (fun _ _ _ => sat_xb (cm_ok hn ht1.1.2.1) (fun t2 _ ht2 => sat_xb (need_ok (by have := ht2.1.1; have := ht2.1.2.1; omega)) (fun _ _ _ => sat_xb (cm_ok hn ht2.1.2.1) (fun t3 _ ht3 => ?_)))))
        exact ⟨fun _ => by rw [wf_N]; exact trivial, ht3.1, by have := ht3.2; have := ht2.1.1; have := ht2.2; have := ht1.1.1; have := ht1.2; show tk.2.1 < t3.2.1; omega, hc1.2, fun p h => by cases h⟩
      · split
        · refine sat_xb (yBr_ok hn hR htk hns hd hc) (fun u _ hu => ?_)
          exact ⟨fun _ => hu.1, hu.2.1, hu.2.2.1, hu.2.2.2.1, fun p h => by cases h⟩
        · exact sat_er erK2 hp2
theorem yLoop_ok {x : Nat → Int32} {n tc : Nat} {G : gE} {L : lE} {gs np K d : Nat} {R : yRec} (hn : n ≤ 4096) (hR : rQ n tc G gs np K d R) (hG : gOk gs G) (hL : lOk np K L) : ∀ (f : Nat) (ops : yOps) (ns : Nat) (cl : Int32) (tk : yTok) (c : Nat), opsT G gs np K ops → tkO n tk → ns ≤ 40 → 40 ≤ d + ns → c ≤ tc → n + 1 ≤ f + tk.2.1 →
    sat (yLoop x n tc G L R f ops ns cl tk c) (eQ n tc G gs np K tk cl) := by
  intro f
  induction f with
  | zero => intro ops ns cl tk c _ htk _ _ _ h; have := htk.1; have := htk.2.1; omega
  | succ f ih =>
    intro ops ns cl tk c hops htk hns hd hc hf
    unfold yLoop
    refine sat_xb (yOpen_ok hn 42 ops ns tk c htk hns (by omega) hc) (fun o _ ho => ?_)
    obtain ⟨⟨l, e1, e2, e3⟩, o2, o3, o4, o5, o6⟩ := ho
    refine sat_xb (yOper_ok hn hR hG hL o3 o2 (by omega) o5) (fun u _ hu => ?_)
    obtain ⟨u1, u2, u3, u4, u5⟩ := hu
    have hp2 : u.2.1.2.1 ≤ 4096 := by have := u2.1; have := u2.2.1; omega
    split
    · exact sat_er erK2 hp2
    · rename_i hs
      split
      · rename_i p hm
        exact sat_er erK5 (u5 p hm)
      · rename_i hm
        have w1 := u1 hm
        have cl1 : clO o.1 u.1 = (ops, wrap l u.1) := by rw [e1]; exact clO_app (fun q hq => (hops q hq).1) l u.1 (fun q hq => (e2 q hq).1)
        have w2 := wrap_wf l u.1 (fun q hq => (e2 q hq).1) w1
        rw [cl1]
        split
        · rename_i hr
          refine ⟨(jnA_wf ops _ hops w2).2, u2, by show tk.2.1 < u.2.1.2.1; omega, u4, ?_⟩
          by_cases q : yEnds cl u.2.1.2.2.1 = true
          · exact q
          · exact (hs ⟨Bool.not_eq_true _ ▸ q, hr⟩).elim
        · rename_i hr
          have hlt : u.2.1.2.1 < u.2.1.1 := by
            rcases u2.2.2.1 with q | q
            · rw [q] at hr; exact absurd (by decide) hr
            · exact q
          refine sat_xb (fo_ok hp2) (fun c3 _ hc3 => sat_xb (cm_ok hn u2.2.1) (fun t3 _ ht3 => ?_))
          have w3 := jnA_wf (k := rk u.2.1.2.2.1) ops _ hops w2
          refine sat_mono (ih _ ns cl t3 c3 ?_ ht3.1 hns hd hc3.2 (by have := ht3.2; omega)) ?_
          · intro q hq
            rcases List.mem_cons.mp hq with e | e
            · rw [e]; exact ⟨Nat.pos_of_ne_zero hr, w3.2⟩
            · exact w3.1 q e
          · rintro v ⟨v1, v2, v3, v4, v5⟩
            exact ⟨v1, v2, by have := ht3.2; omega, v4, v5⟩
theorem yE_ok {x : Nat → Int32} {n tc : Nat} {G : gE} {L : lE} {gs np K : Nat} (hn : n ≤ 4096) (hG : gOk gs G) (hL : lOk np K L) : ∀ d, rQ n tc G gs np K d (yE x n tc G L d) := by
  intro d
  induction d with
  | zero => intro ns cl tk c _ h1 h2; omega
  | succ d ih =>
    intro ns cl tk c htk hns hd hc
    exact yLoop_ok hn ih hG hL _ _ _ _ _ _ (fun q hq => (List.not_mem_nil hq).elim) htk hns (by omega) hc (by omega)
