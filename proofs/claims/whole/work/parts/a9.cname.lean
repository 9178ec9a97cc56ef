/-! THE CLASS: names -/
def wds (G : gE) (L : lE) (i : Nat) : Int64 := if i < G.2.2.2.2 then G.1 i else L.1 (i - G.2.2.2.2)
theorem findB {ln : Nat → Nat} {N M fr : Nat} {w : Int64} {W : Nat → Int64} {σ : zSt} (hf : fr < 2 ^ 31) : ∀ (m k : Nat), m ≤ ln 16 → ln 16 ≤ 4096 → m < k → (∀ i, i < m → zB σ 16 i = W i) → fX4_find_b8 ln N M k w (nI fr) (nI m - 1) σ = some (match lkN W w m with | some j => if fr ≤ j then nI j else -1 | none => -1, σ) := by
  intro m
  induction m with
  | zero =>
    intro k _ _ hk _
    obtain ⟨k, rfl⟩ : ∃ g, k = g + 1 := ⟨k - 1, by omega⟩
    rw [fX4_find_b8, show nI 0 - 1 = -1 from rfl, if_pos (show (-1 : Int32) < nI fr by rw [Int32.lt_iff_toInt_lt, nI_toInt hf]; show (-1 : Int) < _; omega)]
    rfl
  | succ m ih =>
    intro k hm hl hk hW
    obtain ⟨k, rfl⟩ : ∃ g, k = g + 1 := ⟨k - 1, by omega⟩
    rw [fX4_find_b8, nI_pred]
    unfold lkN
    by_cases c : m < fr
    · rw [if_pos (nI_lt c hf)]
      by_cases e : W m = w
      · rw [if_pos e]
        show _ = some (if fr ≤ m then nI m else -1, σ)
        rw [if_neg (by omega)]
      · rw [if_neg e]
        cases hl2 : lkN W w m with
        | none => rfl
        | some j =>
          have := (lkN_lt hl2).1
          show _ = some (if fr ≤ j then nI j else -1, σ)
          rw [if_neg (by omega)]
    · rw [if_neg (Int32.not_lt.mpr ((nI_le' hf (by omega)).mpr (by omega))), if_neg (nI_pos (by omega)), nI_clamp (by omega), if_neg (ixN (by omega) (by omega)), hW m (by omega)]
      by_cases e : W m = w
      · rw [if_pos ((lg_cmp_eq _ _).mpr e), if_pos e]
        show _ = some (if fr ≤ m then nI m else -1, σ)
        rw [if_pos (by omega)]
      · rw [if_neg (fun z => e ((lg_cmp_eq _ _).mp z)), if_neg e, bnd_e, show nI m + -1 = nI m - 1 from (Int32.sub_eq_add_neg ..).symm]
        exact ih k (by omega) hl (by omega) (fun i hi => hW i (by omega))
theorem NV_w {G : gE} {L : lE} {fnd : Nat → Int32} {σ : zSt} (h : NV G L fnd σ) : ∀ i, i < G.2.2.2.2 + L.2.2 → zB σ 16 i = wds G L i := by
  intro i hi
  unfold wds
  by_cases e : i < G.2.2.2.2
  · rw [if_pos e]; exact (h.2.1 i e).1
  · rw [if_neg e]
    have := (h.2.2 (i - G.2.2.2.2) (by omega)).1
    rw [show G.2.2.2.2 + (i - G.2.2.2.2) = i by omega] at this
    exact this
theorem look_lk {G : gE} {w : Int64} {f : Nat → Int64} {g : Nat → Int32} : ∀ (m : Nat), lkN (wds G (f, g, m)) w (G.2.2.2.2 + m) = (match lkN f w m with | some j => some (G.2.2.2.2 + j) | none => lkN G.1 w G.2.2.2.2) := by
  have hcong : ∀ (k : Nat) (W W' : Nat → Int64), (∀ i, i < k → W i = W' i) → lkN W w k = lkN W' w k := by
    intro k
    induction k with
    | zero => intro W W' _; rfl
    | succ k ih =>
      intro W W' h
      unfold lkN
      rw [h k (by omega), ih W W' (fun i hi => h i (by omega))]
  intro m
  induction m with
  | zero =>
    show lkN _ w G.2.2.2.2 = lkN G.1 w G.2.2.2.2
    exact hcong _ _ _ (fun i hi => by unfold wds; rw [if_pos hi])
  | succ m ih =>
    show (if wds G (f, g, m + 1) (G.2.2.2.2 + m) = w then some (G.2.2.2.2 + m) else lkN (wds G (f, g, m + 1)) w (G.2.2.2.2 + m)) = (match (if f m = w then some m else lkN f w m) with | some j => some (G.2.2.2.2 + j) | none => lkN G.1 w G.2.2.2.2)
    have e1 : wds G (f, g, m + 1) (G.2.2.2.2 + m) = f m := by
      unfold wds
      rw [if_neg (by omega), show G.2.2.2.2 + m - G.2.2.2.2 = m by omega]
    rw [e1]
    by_cases e : f m = w
    · rw [if_pos e, if_pos e]
    · rw [if_neg e, if_neg e]
      rw [show lkN (wds G (f, g, m + 1)) w (G.2.2.2.2 + m) = lkN (wds G (f, g, m)) w (G.2.2.2.2 + m) from rfl]
      exact ih
/-- the number of a NAME -/
def ixC (G : gE) : Nat ⊕ Nat → Nat
  | .inl j => G.2.2.2.2 + j
  | .inr g => g
def plOf (G : gE) (L : lE) : Nat ⊕ Nat → Int32
  | .inl j => L.2.1 j
  | .inr g => G.2.2.1 g
def inQ (G : gE) (L : lE) : Nat ⊕ Nat → Prop
  | .inl j => j < L.2.2
  | .inr g => g < G.2.2.2.2
theorem look_in {G : gE} {L : lE} {w : Int64} {k : Nat ⊕ Nat} (h : look G L w = some k) : inQ G L k := by
  unfold look at h
  cases h1 : lkN L.1 w L.2.2 with
  | some j => rw [h1] at h; cases h; exact (lkN_lt h1).1
  | none =>
    rw [h1] at h
    cases h2 : lkN G.1 w G.2.2.2.2 with
    | some g => rw [h2] at h; cases h; exact (lkN_lt h2).1
    | none => rw [h2] at h; cases h
theorem findL {ln : Nat → Nat} {N M q cc : Nat} {G : gE} {L : lE} {fnd : Nat → Int32} {w : Int64} {σ : zSt} (hL : LN ln q cc) (hN : 5000 ≤ N) (hG : G.2.2.2.2 + L.2.2 ≤ ln 15) (h : NV G L fnd σ) : fX4_find ln N M w 0 σ = some (match look G L w with | some k => nI (ixC G k) | none => -1, σ) := by
  have h16 := hL.2.2.1
  have h15 := hL.2.1
  unfold fX4_find
  rw [bnd_e, h.1, show (0 : Int32) = nI 0 from rfl, findB (W := wds G L) (by omega) _ N (by omega) (by omega) (by omega) (NV_w h)]
  have := look_lk (G := G) (w := w) (f := L.1) (g := L.2.1) L.2.2
  rw [show wds G L = wds G (L.1, L.2.1, L.2.2) from rfl, this]
  unfold look
  cases h1 : lkN L.1 w L.2.2 with
  | some j => rfl
  | none =>
    show some (match lkN G.1 w G.2.2.2.2 with | some j => if 0 ≤ j then nI j else -1 | none => -1, σ) = _
    cases h2 : lkN G.1 w G.2.2.2.2 with
    | some g => rfl
    | none => rfl
section
variable {ln : Nat → Nat} {N M q cc : Nat} {G : gE} {L : lE} {fnd : Nat → Int32} {σ : zSt}
theorem ix_lt {k : Nat ⊕ Nat} (hk : inQ G L k) : ixC G k < G.2.2.2.2 + L.2.2 := by
  cases k with
  | inl j => have : j < L.2.2 := hk; show G.2.2.2.2 + j < _; omega
  | inr g => have : g < G.2.2.2.2 := hk; show g < _; omega
theorem nmL {k : Nat ⊕ Nat} {v : Int32} (hL : LN ln q cc) (hG : G.2.2.2.2 + L.2.2 ≤ ln 15) (h : NV G L fnd σ) (hk : inQ G L k) : fX4_placeOf ln N M (nI (ixC G k)) σ = some (plOf G L k, σ) ∧ fX4_countOf ln N M (nI (ixC G k)) σ = some (zA σ 19 (ixC G k), σ) ∧ fX4_nodeOf ln N M (nI (ixC G k)) σ = some (zA σ 20 (ixC G k), σ) ∧ fX4_isSort ln N M (nI (ixC G k)) v σ = some (if zA σ 17 (ixC G k) = v then 1 else 0, σ) ∧ fX4_isValue ln N M (nI (ixC G k)) σ = some (if zA σ 17 (ixC G k) = 0 ∨ zA σ 17 (ixC G k) = 3 then 1 else 0, σ) := by
  have h15 := hL.2.1
  have e17 := hL.2.2.2.1
  have e18 := hL.2.2.2.2.1
  have e19 := hL.2.2.2.2.2.1
  have e20 := hL.2.2.2.2.2.2.1
  have hlt := ix_lt hk
  have hpl : zA σ 18 (ixC G k) = plOf G L k := by
    cases k with
    | inl j => exact (h.2.2 j hk).2.2
    | inr g => exact (h.2.1 g hk).2.2.1
  have c2 : ¬ nI (G.2.2.2.2 + L.2.2) ≤ nI (ixC G k) := fun z => by rw [nI_le' (by omega) (by omega)] at z; omega
  unfold fX4_placeOf fX4_countOf fX4_nodeOf fX4_isSort fX4_isValue fX4_isValue_b31
  rw [h.1, if_neg (nI_pos (by omega)), if_neg (nI_pos (by omega)), if_neg (nI_pos (by omega)), if_neg (nI_pos (by omega)), if_neg (nI_pos (by omega)), if_neg c2, if_neg c2, if_neg c2, if_neg c2, if_neg c2, nI_clamp (by omega), e17, e18, e19, e20, if_neg (ixN (by omega) (by omega)), if_neg (ixN (by omega) (by omega)), if_neg (ixN (by omega) (by omega)), if_neg (ixN (by omega) (by omega)), if_neg (ixN (by omega) (by omega)), hpl]
  refine ⟨rfl, rfl, rfl, ?_, ?_⟩
  · by_cases e : zA σ 17 (ixC G k) = v
    · rw [if_pos e, if_pos e]
    · rw [if_neg e, if_neg e]
  · by_cases e : zA σ 17 (ixC G k) = 0
    · rw [if_pos e, if_pos (Or.inl e)]
    · rw [if_neg e, if_neg (ixN (by omega) (by omega))]
      by_cases e3 : zA σ 17 (ixC G k) = 3
      · rw [if_pos e3, if_pos (Or.inr e3)]
      · rw [if_neg e3, if_neg (show ¬ (zA σ 17 (ixC G k) = 0 ∨ zA σ 17 (ixC G k) = 3) from fun z => z.elim e e3)]
/-- sorts -/
theorem srt_of {k : Nat ⊕ Nat} (h : NV G L fnd σ) (hk : inQ G L k) : zA σ 17 (ixC G k) = (match k with | .inl _ => 3 | .inr g => G.2.1 g) := by
  cases k with
  | inl j => exact (h.2.2 j hk).2.1
  | inr g => exact (h.2.1 g hk).2.1
end
def gSr (G : gE) : Prop := ∀ g, g < G.2.2.2.2 → G.2.1 g = 0 ∨ G.2.1 g = 1 ∨ G.2.1 g = 2
theorem srt_v {G : gE} {L : lE} {fnd : Nat → Int32} {σ : zSt} {k : Nat ⊕ Nat} (hg : gSr G) (h : NV G L fnd σ) (hk : inQ G L k) : ((zA σ 17 (ixC G k) = 0 ∨ zA σ 17 (ixC G k) = 3) ↔ kdOf G k = 0) ∧ (zA σ 17 (ixC G k) = 1 ↔ kdOf G k = 1) ∧ (zA σ 17 (ixC G k) = 2 ↔ kdOf G k = 2) ∧ (zA σ 17 (ixC G k) = 3 ↔ ∃ j, k = .inl j) := by
  rw [srt_of h hk]
  cases k with
  | inl j =>
    show ((3 : Int32) = 0 ∨ (3 : Int32) = 3 ↔ (0 : Int32) = 0) ∧ ((3 : Int32) = 1 ↔ (0 : Int32) = 1) ∧ ((3 : Int32) = 2 ↔ (0 : Int32) = 2) ∧ ((3 : Int32) = 3 ↔ _)
    exact ⟨by decide, by decide, by decide, ⟨fun _ => ⟨j, rfl⟩, fun _ => rfl⟩⟩
  | inr g =>
    show (G.2.1 g = 0 ∨ G.2.1 g = 3 ↔ G.2.1 g = 0) ∧ (G.2.1 g = 1 ↔ G.2.1 g = 1) ∧ (G.2.1 g = 2 ↔ G.2.1 g = 2) ∧ (G.2.1 g = 3 ↔ _)
    have h3 : G.2.1 g ≠ 3 := by
      rcases hg g hk with e | e | e <;> rw [e] <;> decide
    exact ⟨⟨fun z => by rcases z with z | z; exact z; exact absurd z h3, Or.inl⟩, Iff.rfl, Iff.rfl, ⟨fun z => absurd z h3, fun ⟨j, hj⟩ => by cases hj⟩⟩
