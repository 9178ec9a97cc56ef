/-! THE TEXT BY ITSELF: trees, items, frames -/
theorem rep_det {τ u : zSt} : ∀ (t : fT) (lo hi hi' : Nat) (i i' : Int32), rep τ t lo hi i → rep u t lo hi' i' → i = i' := by
  apply ff_ind
  · intro t hz lo hi hi' i i'
    unfold rep
    rw [hz, hz]
    rintro ⟨-, h⟩ ⟨-, h'⟩
    rw [h, h']
  · intro k v w A B C hA hB hC lo hi hi' i i'
    rw [rep_N, rep_N]
    rintro ⟨m, h1, h2, h3, h4, h5, h6, h7⟩ ⟨m', h1', h2', h3', h4', h5', h6', h7'⟩
    have e : m = m' := by
      by_cases hk : k = 6 ∨ k = 7 ∨ k = 8
      · have x := rep_cnt _ _ _ _ (h7.2 hk).1
        have y := rep_cnt _ _ _ _ (h7'.2 hk).1
        omega
      · have x := (h7.1 hk).1
        have y := (h7'.1 hk).1
        omega
    rw [h1, h1', e]
  · intro t r ht hr lo hi hi' i i'
    rw [rep_C, rep_C]
    rintro ⟨m, p, h1, h2, h3, h3b, h4, h5⟩ ⟨m', p', h1', h2', h3', h3b', h4', h5'⟩
    exact ht _ _ _ _ _ h4 h4'
/-- t lies at i, in this state and wherever the program P has been read -/
def rp (P : yP) (τ : zSt) (t : fT) (i : Int32) : Prop := ∃ lo hi, rep τ t lo hi i ∧ ∀ u, PM P u → rep u t lo hi i
theorem rp_mk {P : yP} {τ : zSt} {A : fT} {lo hi : Nat} {i : Int32} (h : rep τ A lo hi i) (hu : ∀ u, PM P u → ∃ hi' i', rep u A lo hi' i') : rp P τ A i := ⟨lo, hi, h, fun u hp => by
  obtain ⟨hi', i', h'⟩ := hu u hp
  have e1 := rep_cnt _ _ _ _ h
  have e2 := rep_cnt _ _ _ _ h'
  have e3 := rep_det _ _ _ _ _ _ h h'
  rw [e3, show hi = hi' by omega]
  exact h'⟩
def cp (P : yP) (c : Nat) (σ : zSt) (np : Nat) (t : fT) (j : Int32) : Prop := ∃ lo hi, hi ≤ nst P P.1.2.2.2.2 ∧ (crp σ c (fun g => nI (nst P g)) np t).1 lo hi j
theorem rp_N {P : yP} {τ : zSt} {k : Nat} {v w : Int} {A B D : fT} {i : Int32} (h : rp P τ (fN k v w A B D) i) : ∃ m, i = nI m ∧ m < 4200 ∧ zA τ 15 m = nI k ∧ zA τ 19 m = Int32.ofInt v ∧ zA τ 20 m = Int32.ofInt w ∧ rp P τ A (zA τ 16 m) ∧ rp P τ B (zA τ 17 m) ∧ rp P τ D (zA τ 18 m) := by
  obtain ⟨lo, hi, h, hu⟩ := h
  rw [rep_N] at h
  obtain ⟨m, h1, h2, h3, h4, h5, h6, h7⟩ := h
  have hu2 : ∀ u, PM P u → lyN k lo hi m (fun p q => rep u A p q (zA u 16 m)) (fun p q => rep u B p q (zA u 17 m)) (fun p q => rep u D p q (zA u 18 m)) := fun u hp => by
    have := hu u hp
    rw [rep_N] at this
    obtain ⟨m', g1, g2, g3, g4, g5, g6, g7⟩ := this
    have e : m' = m := ((nI_eq (by omega) (by omega)).mp (h1.symm.trans g1)).symm
    rw [e] at g7
    exact g7
  refine ⟨m, h1, h2, h4, h5, h6, ?_⟩
  by_cases c : k = 6 ∨ k = 7 ∨ k = 8
  · obtain ⟨a, b, d⟩ := h7.2 c
    exact ⟨rp_mk a (fun u hp => ⟨_, _, ((hu2 u hp).2 c).1⟩), rp_mk b (fun u hp => ⟨_, _, ((hu2 u hp).2 c).2.1⟩), rp_mk d (fun u hp => ⟨_, _, ((hu2 u hp).2 c).2.2⟩)⟩
  · obtain ⟨-, p, q, -, -, -, a, b, d⟩ := h7.1 c
    have ca := rep_cnt _ _ _ _ a
    have cb := rep_cnt _ _ _ _ b
    refine ⟨rp_mk a (fun u hp => ?_), rp_mk b (fun u hp => ?_), rp_mk d (fun u hp => ?_)⟩
    · obtain ⟨-, p', q', -, -, -, a', b', d'⟩ := (hu2 u hp).1 c
      exact ⟨_, _, a'⟩
    · obtain ⟨-, p', q', -, -, -, a', b', d'⟩ := (hu2 u hp).1 c
      have ca' := rep_cnt _ _ _ _ a'
      rw [show p' = p by omega] at b'
      exact ⟨_, _, b'⟩
    · obtain ⟨-, p', q', -, -, -, a', b', d'⟩ := (hu2 u hp).1 c
      have ca' := rep_cnt _ _ _ _ a'
      have cb' := rep_cnt _ _ _ _ b'
      rw [show q' = q by omega] at d'
      exact ⟨_, _, d'⟩
theorem rp_19 {P : yP} {τ : zSt} {k m : Nat} {v w : Int} {A B D : fT} (h : rp P τ (fN k v w A B D) (nI m)) (hm : m < 4200) : ∀ u, PM P u → zA u 19 m = Int32.ofInt v := fun u hp => by
  obtain ⟨lo, hi, h, hu⟩ := h
  have := hu u hp
  rw [rep_N] at this
  obtain ⟨m', g1, g2, g3, g4, g5, g6, g7⟩ := this
  have e : m' = m := ((nI_eq (by omega) (by omega)).mp g1).symm
  rw [e] at g5
  exact g5
theorem rp_C {P : yP} {τ : zSt} {t r : fT} {i : Int32} (h : rp P τ (fC t r) i) : ∃ m, i = nI m ∧ m < 4200 ∧ rp P τ t i ∧ rp P τ r (zA τ 21 m) := by
  obtain ⟨lo, hi, h, hu⟩ := h
  rw [rep_C] at h
  obtain ⟨m, p, h1, h2, h3, h4, h5, h6⟩ := h
  have hu2 : ∀ u, PM P u → ∃ m' p', rep u t lo p' i ∧ rep u r p' hi (zA u 21 m') := fun u hp => by
    have := hu u hp
    rw [rep_C] at this
    obtain ⟨m', p', g1, g2, g3, g4, g5, g6⟩ := this
    exact ⟨m', p', g5, g6⟩
  have c5 := rep_cnt _ _ _ _ h5
  refine ⟨m, h1, h2, rp_mk h5 (fun u hp => ?_), rp_mk h6 (fun u hp => ?_)⟩
  · obtain ⟨m', p', a, b⟩ := hu2 u hp
    exact ⟨_, _, a⟩
  · obtain ⟨m', p', a, b⟩ := hu2 u hp
    have ca := rep_cnt _ _ _ _ a
    rw [show p' = p by omega] at b
    exact ⟨_, _, b⟩
theorem rp_Z {P : yP} {τ : zSt} {t : fT} {i : Int32} (hz : isZ t) (h : rp P τ t i) : i = -1 := by
  obtain ⟨lo, hi, h, -⟩ := h
  rw [rep_isZ hz] at h
  exact h.2
theorem cp_N {P : yP} {c np k : Nat} {σ : zSt} {v w : Int} {A B D : fT} {j : Int32} (h : cp P c σ np (fN k v w A B D) j) : ∃ m, j = nI m ∧ m < nst P P.1.2.2.2.2 ∧ zA σ (6 * c - 21) m = cKd k ∧ zA σ (6 * c - 20) m = cVa (fun g => nI (nst P g)) np k v ∧ (k = 9 → ∃ lo hi, hi ≤ nst P P.1.2.2.2.2 ∧ (crp σ c (fun g => nI (nst P g)) np A).2 (-1) lo hi (zA σ (6 * c - 19) m)) ∧ (k ≠ 9 → cp P c σ np A (zA σ (6 * c - 19) m)) ∧ (k = 4 → zA σ (6 * c - 18) m = Int32.ofInt w) ∧ (k = 28 → zA σ (6 * c - 18) m = Int32.ofInt w ∧ cp P c σ np B (zA σ (6 * c - 17) m)) ∧ (k ≠ 4 → k ≠ 28 → cp P c σ np B (zA σ (6 * c - 18) m)) ∧ (k ≠ 28 → cp P c σ np D (zA σ (6 * c - 17) m)) := by
  obtain ⟨lo, hi, hh, h⟩ := h
  rw [crp_N] at h
  obtain ⟨m, a, b, h1, rfl, h2, h3, h4, h5, h6, h7, h8, h9, h10, h11, h12, h13⟩ := h
  exact ⟨m, h1, by omega, h6, h7, fun e => ⟨_, _, by omega, h8 e⟩, fun e => ⟨_, _, by omega, h9 e⟩, fun e => (h10 e).2, fun e => ⟨(h11 e).1, _, _, by omega, (h11 e).2.1⟩, fun e e2 => ⟨_, _, by omega, h12 e e2⟩, fun e => ⟨_, _, by omega, h13 e⟩⟩
theorem crp_hi {σ : zSt} {q : Nat} {fnd : Nat → Int32} {np : Nat} {t : fT} {lo hi : Nat} {i : Int32} (h : (crp σ q fnd np t).1 lo hi i) : lo ≤ hi := by
  have := (crp_cnt t).1 lo hi i h
  omega
theorem cp_C {P : yP} {c np : Nat} {σ : zSt} {t r : fT} {j : Int32} (h : cp P c σ np (fC t r) j) : ∃ m, j = nI m ∧ m < nst P P.1.2.2.2.2 ∧ cp P c σ np t j ∧ cp P c σ np r (zA σ (6 * c - 16) m) := by
  obtain ⟨lo, hi, hh, h⟩ := h
  rw [crp_C] at h
  obtain ⟨m, h1, h2, h3, h4, h5⟩ := h
  exact ⟨m, h1, by omega, ⟨_, _, by omega, h4⟩, ⟨_, _, hh, h5⟩⟩
theorem cp_Z {P : yP} {c np : Nat} {σ : zSt} {t : fT} {j : Int32} (hz : isZ t) (h : cp P c σ np t j) : j = -1 := by
  obtain ⟨lo, hi, hh, h⟩ := h
  rw [crp_isZ hz] at h
  exact h.2
/-- rows of trees that stay -/
def trS (c : Nat) (σ τ σ' τ' : zSt) : Prop := (∀ a i, 33 ≤ a → a ≤ 44 → zA σ' a i = zA σ a i) ∧ (∀ a i, 15 ≤ a → a ≤ 21 → zA τ' a i = zA τ a i) ∧ (∀ i, zA τ' 11 i = zA τ 11 i)
theorem rp_f {P : yP} {τ τ' : zSt} {t : fT} {i : Int32} (h : ∀ a i, 15 ≤ a → a ≤ 21 → zA τ' a i = zA τ a i) (hr : rp P τ t i) : rp P τ' t i := by
  obtain ⟨lo, hi, hr, hu⟩ := hr
  exact ⟨lo, hi, rep_frame _ _ _ _ (fun m hm => ⟨hm, fun a a1 a2 => h a m a1 a2⟩) hr, hu⟩
theorem cp_f {P : yP} {c np : Nat} {σ σ' : zSt} {t : fT} {j : Int32} (hc : c = 9 ∨ c = 10) (h : ∀ a i, 33 ≤ a → a ≤ 44 → zA σ' a i = zA σ a i) (hr : cp P c σ np t j) : cp P c σ' np t j := by
  obtain ⟨lo, hi, hh, hr⟩ := hr
  exact ⟨lo, hi, hh, (crp_frame (fnd' := fun g => nI (nst P g)) hc t).1 lo hi j (fun a m a1 a2 _ _ => h a m (by omega) (by omega)) hr⟩
/-- an item: 0 a call of FUNCTION f, 1 E, 2 S, 3 f's body, 4 an operation, 5 && or ||, 6 truth, 7 f's end, 8 a row, 9 an S to be done, 10 a value to let go -/
abbrev aI : Type := Nat × fT × Nat
def rkI (k : Nat) : Int32 := if k = 1 then 2 else if k = 2 then 8 else if k = 4 then 3 else if k = 5 then 4 else if k = 8 then 7 else 9
def ckI (k : Nat) : Int32 := if k = 1 then 0 else if k = 2 then 0 else if k = 8 then 5 else 1
def slI (P : yP) (m c : Nat) (σ τ : zSt) (np : Nat) (a : aI) (p : Nat) : Prop :=
  if a.1 = 0 then zA τ 44 p = 1 ∧ zA σ 28 p = 3 ∧ zA σ 29 p = nI (nst P a.2.2) ∧ ((zA τ 45 p = -1 ∧ a.2.2 = m) ∨ ∃ k, k < 4200 ∧ zA τ 45 p = nI k ∧ zA τ 19 k = nI a.2.2 ∧ ∀ u, PM P u → zA u 19 k = nI a.2.2)
  else if a.1 = 3 then zA τ 44 p = 8 ∧ zA τ 45 p = zA τ 11 a.2.2 ∧ zA σ 28 p = 4 ∧ zA σ 29 p = nI (nst P a.2.2)
  else if a.1 = 6 then zA τ 44 p = 5 ∧ zA σ 28 p = 2
  else if a.1 = 7 then zA τ 44 p = 6 ∧ zA σ 28 p = 6
  else if a.1 = 10 then zA τ 44 p = 10 ∧ zA σ 28 p = 7
  else zA τ 44 p = rkI a.1 ∧ zA σ 28 p = ckI a.1 ∧ rp P τ a.2.1 (zA τ 45 p) ∧ cp P c σ np a.2.1 (zA σ 29 p)
def itR (P : yP) (m c : Nat) (σ τ : zSt) : List aI → List Nat → Prop
  | [], _ => True
  | a :: I, F => slI P m c σ τ (npF P (F.headD 0)) a I.length ∧ itR P m c σ τ I (if a.1 = 7 then F.tail else F)
theorem slI_f {P : yP} {m c np p p' : Nat} {σ τ σ' τ' : zSt} {a : aI} (hc : c = 9 ∨ c = 10) (ht : trS c σ τ σ' τ') (h1 : zA σ' 28 p' = zA σ 28 p) (h2 : zA σ' 29 p' = zA σ 29 p) (h3 : zA τ' 44 p' = zA τ 44 p) (h4 : zA τ' 45 p' = zA τ 45 p) (h : slI P m c σ τ np a p) : slI P m c σ' τ' np a p' := by
  unfold slI at h ⊢
  rw [h1, h2, h3, h4]
  by_cases c0 : a.1 = 0
  · rw [if_pos c0] at h ⊢
    obtain ⟨x1, x2, x3, x4⟩ := h
    refine ⟨x1, x2, x3, ?_⟩
    rcases x4 with x | ⟨k, k1, k2, k3, k4⟩
    · exact Or.inl x
    · exact Or.inr ⟨k, k1, k2, (ht.2.1 19 k (by omega) (by omega)).trans k3, k4⟩
  rw [if_neg c0] at h ⊢
  by_cases c3 : a.1 = 3
  · rw [if_pos c3] at h ⊢
    rw [ht.2.2]; exact h
  rw [if_neg c3] at h ⊢
  by_cases c6 : a.1 = 6
  · rw [if_pos c6] at h ⊢; exact h
  rw [if_neg c6] at h ⊢
  by_cases c7 : a.1 = 7
  · rw [if_pos c7] at h ⊢; exact h
  rw [if_neg c7] at h ⊢
  by_cases c10 : a.1 = 10
  · rw [if_pos c10] at h ⊢; exact h
  rw [if_neg c10] at h ⊢
  exact ⟨h.1, h.2.1, rp_f ht.2.1 h.2.2.1, cp_f hc ht.1 h.2.2.2⟩
theorem itR_f {P : yP} {m c : Nat} {σ τ σ' τ' : zSt} (hc : c = 9 ∨ c = 10) (ht : trS c σ τ σ' τ') : ∀ (I : List aI) (F : List Nat), (∀ p, p < I.length → zA σ' 28 p = zA σ 28 p ∧ zA σ' 29 p = zA σ 29 p ∧ zA τ' 44 p = zA τ 44 p ∧ zA τ' 45 p = zA τ 45 p) → itR P m c σ τ I F → itR P m c σ' τ' I F := by
  intro I
  induction I with
  | nil => intro F _ _; trivial
  | cons a I ih =>
    intro F hp h
    obtain ⟨x1, x2, x3, x4⟩ := hp I.length (by rw [List.length_cons]; omega)
    exact ⟨slI_f hc ht x1 x2 x3 x4 h.1, ih _ (fun p hp2 => hp p (by rw [List.length_cons]; omega)) h.2⟩
/-- well-made within FUNCTION g -/
def wfg (P : yP) (g : Nat) (t : fT) (r m : Nat) : Prop := wf (gC P.1 (g + 1)) P.2.1 (npF P g) (P.2.2.2.2 g) t r m
/-- the ITEMS find the VALUES that they need: md 1: an E or what is done with its value, md 0: an S -/
def okW (P : yP) : List aI → Nat → Nat → List Nat → Prop
  | [], md, n, F => md = 1 ∧ n = 1 ∧ F = []
  | a :: I, md, n, F =>
    (a.1 = 0 ∧ md = 1 ∧ isF P a.2.2 ∧ npF P a.2.2 ≤ n ∧ okW P I 1 (n - npF P a.2.2 + 1) F) ∨
    (a.1 = 7 ∧ md = 0 ∧ ∃ F', F = a.2.2 :: F' ∧ okW P I 1 (n + 1) F') ∨
    (∃ g F', F = g :: F' ∧ isF P g ∧ (
      (a.1 = 1 ∧ md = 1 ∧ wfg P g a.2.1 0 0 ∧ okW P I 1 (n + 1) F) ∨
      (a.1 = 4 ∧ md = 1 ∧ wfg P g a.2.1 0 0 ∧ ∃ k v w A B D, a.2.1 = fN k v w A B D ∧ (((k = 4 ∨ k = 5) ∧ 1 ≤ n ∧ okW P I 1 n F) ∨ (k = 6 ∧ 2 ≤ n ∧ okW P I 1 (n - 1) F))) ∨
      (a.1 = 5 ∧ md = 1 ∧ wfg P g a.2.1 0 0 ∧ 1 ≤ n ∧ (∃ k v w A B D, a.2.1 = fN k v w A B D ∧ (k = 7 ∨ k = 8)) ∧ okW P I 1 n F) ∨
      (a.1 = 6 ∧ md = 1 ∧ 1 ≤ n ∧ okW P I 1 n F) ∨
      (a.1 = 9 ∧ md = 1 ∧ wfg P g a.2.1 1 0 ∧ ∃ k v w A B D, a.2.1 = fN k v w A B D ∧ (((21 ≤ k ∧ k ≤ 27) ∧ 1 ≤ n ∧ okW P I 0 (n - 1) F) ∨ (k = 28 ∧ 2 ≤ n ∧ okW P I 0 (n - 2) F))) ∨
      (a.1 = 10 ∧ md = 1 ∧ 1 ≤ n ∧ okW P I 0 (n - 1) F) ∨
      (a.1 = 2 ∧ md = 0 ∧ wfg P g a.2.1 1 0 ∧ okW P I 0 n F) ∨
      (a.1 = 3 ∧ md = 0 ∧ a.2.2 = g ∧ okW P I 0 n F) ∨
      (a.1 = 8 ∧ md = 0 ∧ (∃ t r, a.2.1 = fC t r) ∧ wfg P g a.2.1 2 0 ∧ okW P I 0 n F)))
theorem okW_F {P : yP} : ∀ (I : List aI) (md n : Nat) (F : List Nat), okW P I md n F → F.length ≤ I.length := by
  intro I
  induction I with
  | nil => intro md n F h; rw [h.2.2]; exact Nat.le_refl _
  | cons a I ih =>
    intro md n F h
    rw [List.length_cons]
    rcases h with h | h | h
    · have := ih _ _ _ h.2.2.2.2; omega
    · obtain ⟨-, -, F', rfl, h⟩ := h
      have := ih _ _ _ h
      rw [List.length_cons]; omega
    · obtain ⟨g, F', -, -, h⟩ := h
      rcases h with h | h | h | h | h | h | h | h | h
      · have := ih _ _ _ h.2.2.2; omega
      · obtain ⟨-, -, -, k, v, w, A, B, D, -, h | h⟩ := h
        · have := ih _ _ _ h.2.2; omega
        · have := ih _ _ _ h.2.2; omega
      · have := ih _ _ _ h.2.2.2.2.2; omega
      · have := ih _ _ _ h.2.2.2; omega
      · obtain ⟨-, -, -, k, v, w, A, B, D, -, h | h⟩ := h
        · have := ih _ _ _ h.2.2; omega
        · have := ih _ _ _ h.2.2; omega
      · have := ih _ _ _ h.2.2.2; omega
      · have := ih _ _ _ h.2.2.2; omega
      · have := ih _ _ _ h.2.2.2; omega
      · have := ih _ _ _ h.2.2.2.2; omega
/-- FRAMES: where each begins, and whose it is -/
def frR (P : yP) (σ τ : zSt) : List (Nat × Nat) → Nat → Prop
  | [], e => e = 0
  | (b, f) :: F, e => isF P f ∧ e = b + npF P f + P.2.2.2.2 f ∧ zA τ 47 F.length = nI b ∧ zA τ 48 F.length = nI f ∧ zA σ 32 F.length = nI b ∧ frR P σ τ F b
theorem frR_f {P : yP} {σ τ σ' τ' : zSt} : ∀ (F : List (Nat × Nat)) (e : Nat), (∀ i, i < F.length → zA τ' 47 i = zA τ 47 i ∧ zA τ' 48 i = zA τ 48 i ∧ zA σ' 32 i = zA σ 32 i) → frR P σ τ F e → frR P σ' τ' F e := by
  intro F
  induction F with
  | nil => intro e _ h; exact h
  | cons a F ih =>
    obtain ⟨b, f⟩ := a
    intro e hi h
    obtain ⟨x1, x2, x3⟩ := hi F.length (by rw [List.length_cons]; omega)
    obtain ⟨h1, h2, h3, h4, h5, h6⟩ := h
    exact ⟨h1, h2, x1.trans h3, x2.trans h4, x3.trans h5, ih b (fun i hi2 => hi i (by rw [List.length_cons]; omega)) h6⟩
