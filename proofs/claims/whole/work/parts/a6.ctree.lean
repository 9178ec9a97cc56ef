/-! THE CLASS: its trees. First part: a node (from lo up to hi, the root last), or LOCALS and S in a row; second part: a call's parts, the last one first -/
abbrev yCn : Type := Nat → Nat → Int32 → Prop
def inF (np : Nat) (v : Int) : Int32 := if 0 ≤ v then Int32.ofInt v + nI np else Int32.ofInt v + 2 + nI np
def cKd (k : Nat) : Int32 := if k = 1 then 1 else if k = 2 then 2 else if k = 3 then 3 else if k = 4 then 4 else if k = 5 then 6 else if k = 6 ∨ k = 7 ∨ k = 8 then 7 else if k = 9 then 8 else if k = 10 then 5 else if k = 20 then 9 else if k = 21 ∨ k = 27 then 15 else if k = 22 then 10 else if k = 23 then 11 else if k = 24 then 12 else if k = 25 then 13 else if k = 26 then 14 else if k = 28 then 16 else if k = 29 then 17 else 18
def cVa (fnd : Nat → Int32) (np k : Nat) (v : Int) : Int32 := if k = 3 ∨ k = 21 ∨ k = 27 then inF np v else if k = 7 then 8 else if k = 8 then 9 else if k = 9 then fnd v.toNat else if k = 1 ∨ k = 2 ∨ k = 4 ∨ k = 5 ∨ k = 6 ∨ k = 26 ∨ k = 28 then Int32.ofInt v else 0
def cpN (σ : zSt) (q : Nat) (fnd : Nat → Int32) (np : Nat) (k : Nat) (v w : Int) (A B C : yCn × (Int32 → yCn)) : yCn × (Int32 → yCn) := (fun lo hi i => ∃ m a b, i = nI m ∧ hi = m + 1 ∧ lo ≤ a ∧ a ≤ b ∧ b ≤ m ∧ m < 4096 ∧ zA σ (6 * q - 21) m = cKd k ∧ zA σ (6 * q - 20) m = cVa fnd np k v ∧
    (k = 9 → A.2 (-1) lo a (zA σ (6 * q - 19) m)) ∧ (k ≠ 9 → A.1 lo a (zA σ (6 * q - 19) m)) ∧
    (k = 4 → B.1 a b (-1) ∧ zA σ (6 * q - 18) m = Int32.ofInt w) ∧ (k = 28 → zA σ (6 * q - 18) m = Int32.ofInt w ∧ B.1 a b (zA σ (6 * q - 17) m) ∧ C.1 b m (-1)) ∧ (k ≠ 4 → k ≠ 28 → B.1 a b (zA σ (6 * q - 18) m)) ∧
    (k ≠ 28 → C.1 b m (zA σ (6 * q - 17) m)), fun _ _ _ _ => False)
def cpC (σ : zSt) (q : Nat) (t r : yCn × (Int32 → yCn)) : yCn × (Int32 → yCn) := (fun lo hi i => ∃ m, i = nI m ∧ lo ≤ m ∧ m + 1 ≤ hi ∧ t.1 lo (m + 1) i ∧ r.1 (m + 1) hi (zA σ (6 * q - 16) m),
  fun prev lo hi i => ∃ m, lo ≤ m ∧ m + 1 ≤ hi ∧ t.1 lo (m + 1) (nI m) ∧ zA σ (6 * q - 16) m = prev ∧ r.2 (nI m) (m + 1) hi i)
def cpZ : yCn × (Int32 → yCn) := (fun lo hi i => lo = hi ∧ i = -1, fun prev lo hi i => lo = hi ∧ i = prev)
def crp (σ : zSt) (q : Nat) (fnd : Nat → Int32) (np : Nat) : fT → yCn × (Int32 → yCn) := ff cpZ (cpN σ q fnd np) (cpC σ q)
theorem crp_N {σ : zSt} {q : Nat} {fnd : Nat → Int32} {np k : Nat} {v w : Int} {A B C : fT} : crp σ q fnd np (fN k v w A B C) = cpN σ q fnd np k v w (crp σ q fnd np A) (crp σ q fnd np B) (crp σ q fnd np C) := ff_N _ _ _ _ _ _ _ _ _
theorem crp_C {σ : zSt} {q : Nat} {fnd : Nat → Int32} {np : Nat} {t r : fT} : crp σ q fnd np (fC t r) = cpC σ q (crp σ q fnd np t) (crp σ q fnd np r) := ff_C _ _ _ _ _
theorem crp_Z {σ : zSt} {q : Nat} {fnd : Nat → Int32} {np : Nat} : crp σ q fnd np fZ = cpZ := ff_Z _ _ _
theorem crp_isZ {σ : zSt} {q : Nat} {fnd : Nat → Int32} {np : Nat} {t : fT} (h : isZ t) : crp σ q fnd np t = cpZ := h _ _ _ _
/-- rows that stay; the row 'next' may change at the root of a node -/
def cSm (q lo hi : Nat) (τ u : zSt) : Prop := ∀ a m, 6 * q - 21 ≤ a → a ≤ 6 * q - 16 → lo ≤ m → m < hi → (a = 6 * q - 16 → m + 1 ≠ hi) → zA u a m = zA τ a m
theorem crp_frame {τ u : zSt} {q : Nat} {fnd fnd' : Nat → Int32} {np : Nat} (hq : q = 9 ∨ q = 10) : ∀ (t : fT), (∀ (lo hi : Nat) (i : Int32), (∀ a m, 6 * q - 21 ≤ a → a ≤ 6 * q - 16 → lo ≤ m → m < hi → zA u a m = zA τ a m) → (crp τ q fnd np t).1 lo hi i → (crp u q fnd np t).1 lo hi i) ∧ (∀ (pr : Int32) (lo hi : Nat) (i : Int32), (∀ a m, 6 * q - 21 ≤ a → a ≤ 6 * q - 16 → lo ≤ m → m < hi → zA u a m = zA τ a m) → (crp τ q fnd np t).2 pr lo hi i → (crp u q fnd np t).2 pr lo hi i) ∧ (∀ k v w A B C, t = fN k v w A B C → ∀ (lo hi : Nat) (i : Int32), cSm q lo hi τ u → (crp τ q fnd np t).1 lo hi i → (crp u q fnd np t).1 lo hi i) := by
  apply ff_ind
  · intro t hz
    rw [crp_isZ hz, crp_isZ hz]
    refine ⟨fun _ _ _ _ h => h, fun _ _ _ _ _ h => h, fun k v w A B C e => ?_⟩
    exfalso
    subst e
    have := hz Nat 0 (fun _ _ _ _ _ _ => 1) (fun _ _ => 0)
    rw [ff_N] at this
    cases this
  · intro k v w A B C hA hB hC
    have key : ∀ (lo hi : Nat) (i : Int32), cSm q lo hi τ u → (crp τ q fnd np (fN k v w A B C)).1 lo hi i → (crp u q fnd np (fN k v w A B C)).1 lo hi i := by
      intro lo hi i hf
      rw [crp_N, crp_N]
      rintro ⟨m, a, b, h1, rfl, h2, h3, h4, h5, h6, h7, h8, h9, h10, h11, h12, h13⟩
      have hs : ∀ r, 6 * q - 21 ≤ r → r ≤ 6 * q - 17 → zA u r m = zA τ r m := fun r r1 r2 => hf r m r1 (by omega) (by omega) (by omega) (by omega)
      have hc : ∀ r j, 6 * q - 21 ≤ r → r ≤ 6 * q - 16 → lo ≤ j → j < m → zA u r j = zA τ r j := fun r j r1 r2 r3 r4 => hf r j r1 r2 r3 (by omega) (by omega)
      refine ⟨m, a, b, h1, rfl, h2, h3, h4, h5, (hs _ (by omega) (by omega)).trans h6, (hs _ (by omega) (by omega)).trans h7, fun e => ?_, fun e => ?_, fun e => ?_, fun e => ?_, fun e e2 => ?_, fun e => ?_⟩
      · rw [hs _ (by omega) (by omega)]; exact hA.2.1 _ _ _ _ (fun r j r1 r2 r3 r4 => hc r j r1 r2 r3 (by omega)) (h8 e)
      · rw [hs _ (by omega) (by omega)]; exact hA.1 _ _ _ (fun r j r1 r2 r3 r4 => hc r j r1 r2 r3 (by omega)) (h9 e)
      · rw [hs _ (by omega) (by omega)]; exact ⟨hB.1 _ _ _ (fun r j r1 r2 r3 r4 => hc r j r1 r2 (by omega) (by omega)) (h10 e).1, (h10 e).2⟩
      · rw [hs _ (by omega) (by omega), hs (6 * q - 17) (by omega) (by omega)]
        obtain ⟨g1, g2, g3⟩ := h11 e
        exact ⟨g1, hB.1 _ _ _ (fun r j r1 r2 r3 r4 => hc r j r1 r2 (by omega) (by omega)) g2, hC.1 _ _ _ (fun r j r1 r2 r3 r4 => hc r j r1 r2 (by omega) (by omega)) g3⟩
      · rw [hs _ (by omega) (by omega)]; exact hB.1 _ _ _ (fun r j r1 r2 r3 r4 => hc r j r1 r2 (by omega) (by omega)) (h12 e e2)
      · rw [hs _ (by omega) (by omega)]; exact hC.1 _ _ _ (fun r j r1 r2 r3 r4 => hc r j r1 r2 (by omega) (by omega)) (h13 e)
    refine ⟨fun lo hi i hf h => key lo hi i (fun a m a1 a2 a3 a4 _ => hf a m a1 a2 a3 a4) h, fun pr lo hi i hf => ?_, fun _ _ _ _ _ _ _ lo hi i hf h => key lo hi i hf h⟩
    rw [crp_N, crp_N]
    exact fun h => h.elim
  · intro t r ht hr
    refine ⟨fun lo hi i hf => ?_, fun pr lo hi i hf => ?_, fun k v w A B C e => ?_⟩
    · rw [crp_C, crp_C]
      rintro ⟨m, h1, h2, h3, h4, h5⟩
      refine ⟨m, h1, h2, h3, ht.1 _ _ _ (fun a j a1 a2 a3 a4 => hf a j a1 a2 a3 (by omega)) h4, ?_⟩
      rw [hf (6 * q - 16) m (by omega) (by omega) (by omega) (by omega)]
      exact hr.1 _ _ _ (fun a j a1 a2 a3 a4 => hf a j a1 a2 (by omega) a4) h5
    · rw [crp_C, crp_C]
      rintro ⟨m, h2, h3, h4, h5, h6⟩
      refine ⟨m, h2, h3, ht.1 _ _ _ (fun a j a1 a2 a3 a4 => hf a j a1 a2 a3 (by omega)) h4, ?_, hr.2.1 _ _ _ _ (fun a j a1 a2 a3 a4 => hf a j a1 a2 (by omega) a4) h6⟩
      rw [hf (6 * q - 16) m (by omega) (by omega) (by omega) (by omega)]
      exact h5
    · exact absurd e (fun e => by cases e)
theorem crp_fX {τ u : zSt} {q : Nat} {fnd : Nat → Int32} {np s p t lo hi : Nat} {i : Int32} {A : fT} (hq : q = 9 ∨ q = 10) (hf : fX q s p t τ u) (hs : hi ≤ s) (h : (crp τ q fnd np A).1 lo hi i) : (crp u q fnd np A).1 lo hi i := (crp_frame (fnd' := fnd) hq A).1 lo hi i (fun a m a1 a2 a3 a4 => hf.2.2.2.1 a m (by unfold eA; omega)) h
theorem crp_cnt {σ : zSt} {q : Nat} {fnd : Nat → Int32} {np : Nat} : ∀ (t : fT), (∀ lo hi i, (crp σ q fnd np t).1 lo hi i → hi = lo + cN t) ∧ (∀ pr lo hi i, (crp σ q fnd np t).2 pr lo hi i → hi = lo + cN t) := by
  apply ff_ind
  · intro t hz
    rw [crp_isZ hz, cN_isZ hz]
    exact ⟨fun lo hi i h => by have := h.1; omega, fun pr lo hi i h => by have := h.1; omega⟩
  · intro k v w A B C hA hB hC
    rw [crp_N, cN_N]
    refine ⟨fun lo hi i h => ?_, fun pr lo hi i h => h.elim⟩
    obtain ⟨m, a, b, h1, rfl, h2, h3, h4, h5, h6, h7, h8, h9, h10, h11, h12, h13⟩ := h
    have eA : a = lo + cN A := by
      by_cases e : k = 9
      · exact hA.2 _ _ _ _ (h8 e)
      · exact hA.1 _ _ _ (h9 e)
    have eB : b = a + cN B := by
      by_cases e : k = 4
      · exact hB.1 _ _ _ (h10 e).1
      · by_cases e2 : k = 28
        · exact hB.1 _ _ _ (h11 e2).2.1
        · exact hB.1 _ _ _ (h12 e e2)
    have eC : m = b + cN C := by
      by_cases e2 : k = 28
      · exact hC.1 _ _ _ (h11 e2).2.2
      · exact hC.1 _ _ _ (h13 e2)
    omega
  · intro t r ht hr
    rw [crp_C, cN_C]
    refine ⟨fun lo hi i h => ?_, fun pr lo hi i h => ?_⟩
    · obtain ⟨m, h1, h2, h3, h4, h5⟩ := h
      have := ht.1 _ _ _ h4
      have := hr.1 _ _ _ h5
      omega
    · obtain ⟨m, h1, h2, h3, h4, h5⟩ := h
      have := ht.1 _ _ _ h3
      have := hr.2 _ _ _ _ h5
      omega
/-- a node is added behind its parts -/
theorem crp_mk {τ : zSt} {q s : Nat} {fnd : Nat → Int32} {np k lo a b : Nat} {v w : Int} {A B C : fT} {x y : Int32} (hq : q = 9 ∨ q = 10) (hs : s < 4096) (h1 : lo ≤ a) (h2 : a ≤ b) (h3 : b ≤ s) (hd : k ≠ 28) (hk : k ≠ 22)
    (hA : k ≠ 9 → (crp τ q fnd np A).1 lo a x) (hA9 : k = 9 → (crp τ q fnd np A).2 (-1) lo a x) (hB4 : k = 4 → (crp τ q fnd np B).1 a b (-1) ∧ y = Int32.ofInt w) (hB : k ≠ 4 → (crp τ q fnd np B).1 a b y) (hC : isZ C) (hb : b = s) : (crp (taS τ q s (cKd k) (cVa fnd np k v) x y) q fnd np (fN k v w A B C)).1 lo (s + 1) (nI s) := by
  have hrow : ∀ r m, m ≠ s → zA (taS τ q s (cKd k) (cVa fnd np k v) x y) r m = zA τ r m := by
    intro r m hm
    unfold taS
    rw [zA_I, zA_A, if_neg (by omega), zA_A, if_neg (by omega), zA_A, if_neg (by omega), zA_A, if_neg (by omega), zA_A, if_neg (by omega), zA_A, if_neg (by omega)]
  have r0 : zA (taS τ q s (cKd k) (cVa fnd np k v) x y) (6 * q - 21) s = cKd k := by
    unfold taS
    rw [zA_I, zA_A, if_neg (by omega), zA_A, if_neg (by omega), zA_A, if_neg (by omega), zA_A, if_neg (by omega), zA_A, if_neg (by omega), zA_A, if_pos ⟨rfl, rfl⟩]
  have r1 : zA (taS τ q s (cKd k) (cVa fnd np k v) x y) (6 * q - 20) s = cVa fnd np k v := by
    unfold taS
    rw [zA_I, zA_A, if_neg (by omega), zA_A, if_neg (by omega), zA_A, if_neg (by omega), zA_A, if_neg (by omega), zA_A, if_pos ⟨rfl, rfl⟩]
  have r2 : zA (taS τ q s (cKd k) (cVa fnd np k v) x y) (6 * q - 19) s = x := by
    unfold taS
    rw [zA_I, zA_A, if_neg (by omega), zA_A, if_neg (by omega), zA_A, if_neg (by omega), zA_A, if_pos ⟨rfl, rfl⟩]
  have r3 : zA (taS τ q s (cKd k) (cVa fnd np k v) x y) (6 * q - 18) s = y := by
    unfold taS
    rw [zA_I, zA_A, if_neg (by omega), zA_A, if_neg (by omega), zA_A, if_pos ⟨rfl, rfl⟩]
  have r4 : zA (taS τ q s (cKd k) (cVa fnd np k v) x y) (6 * q - 17) s = -1 := by
    unfold taS
    rw [zA_I, zA_A, if_neg (by omega), zA_A, if_pos ⟨rfl, rfl⟩]
  rw [crp_N]
  refine ⟨s, a, b, rfl, rfl, h1, h2, h3, hs, r0, r1, fun e => ?_, fun e => ?_, fun e => ?_, fun e => absurd e hd, fun e e2 => ?_, fun e => ?_⟩
  · rw [r2]; exact (crp_frame (fnd' := fnd) hq A).2.1 _ _ _ _ (fun r m r1 r2 r3 r4 => hrow r m (by omega)) (hA9 e)
  · rw [r2]; exact (crp_frame (fnd' := fnd) hq A).1 _ _ _ (fun r m r1 r2 r3 r4 => hrow r m (by omega)) (hA e)
  · rw [r3]; exact ⟨(crp_frame (fnd' := fnd) hq B).1 _ _ _ (fun r m r1 r2 r3 r4 => hrow r m (by omega)) (hB4 e).1, (hB4 e).2⟩
  · rw [r3]; exact (crp_frame (fnd' := fnd) hq B).1 _ _ _ (fun r m r1 r2 r3 r4 => hrow r m (by omega)) (hB e)
  · rw [crp_isZ hC, r4, hb]; exact ⟨rfl, rfl⟩
theorem isZ_Z : isZ fZ := fun _ _ _ _ => ff_Z _ _ _
theorem crp_e {τ : zSt} {q : Nat} {fnd : Nat → Int32} {np m : Nat} : (crp τ q fnd np fZ).1 m m (-1) := by rw [crp_Z]; exact ⟨rfl, rfl⟩
/-- a node without parts, with one, with two -/
theorem crp_0 {τ : zSt} {q s : Nat} {fnd : Nat → Int32} {np k : Nat} {v w : Int} (hq : q = 9 ∨ q = 10) (hs : s < 4096) (hk : k ≠ 28 ∧ k ≠ 22 ∧ k ≠ 9 ∧ k ≠ 4) : (crp (taS τ q s (cKd k) (cVa fnd np k v) (-1) (-1)) q fnd np (fN k v w fZ fZ fZ)).1 s (s + 1) (nI s) := crp_mk hq hs (Nat.le_refl _) (Nat.le_refl _) (Nat.le_refl _) (by omega) (by omega) (fun _ => crp_e) (fun e => absurd e hk.2.2.1) (fun e => absurd e hk.2.2.2) (fun _ => crp_e) isZ_Z rfl
theorem crp_1 {τ : zSt} {q s lo : Nat} {fnd : Nat → Int32} {np k : Nat} {v w : Int} {A : fT} {x : Int32} (hq : q = 9 ∨ q = 10) (hs : s < 4096) (hl : lo ≤ s) (hk : k ≠ 28 ∧ k ≠ 22 ∧ k ≠ 9 ∧ k ≠ 4) (hA : (crp τ q fnd np A).1 lo s x) : (crp (taS τ q s (cKd k) (cVa fnd np k v) x (-1)) q fnd np (fN k v w A fZ fZ)).1 lo (s + 1) (nI s) := crp_mk hq hs hl (Nat.le_refl _) (Nat.le_refl _) (by omega) (by omega) (fun _ => hA) (fun e => absurd e hk.2.2.1) (fun e => absurd e hk.2.2.2) (fun _ => crp_e) isZ_Z rfl
theorem crp_2 {τ : zSt} {q s lo a : Nat} {fnd : Nat → Int32} {np k : Nat} {v w : Int} {A B : fT} {x y : Int32} (hq : q = 9 ∨ q = 10) (hs : s < 4096) (hl : lo ≤ a) (ha : a ≤ s) (hk : k ≠ 28 ∧ k ≠ 22 ∧ k ≠ 9 ∧ k ≠ 4) (hA : (crp τ q fnd np A).1 lo a x) (hB : (crp τ q fnd np B).1 a s y) : (crp (taS τ q s (cKd k) (cVa fnd np k v) x y) q fnd np (fN k v w A B fZ)).1 lo (s + 1) (nI s) := crp_mk hq hs hl ha (Nat.le_refl _) (by omega) (by omega) (fun _ => hA) (fun e => absurd e hk.2.2.1) (fun e => absurd e hk.2.2.2) (fun _ => hB) isZ_Z rfl
