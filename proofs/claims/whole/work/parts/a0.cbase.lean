/-! THE CLASS: lengths of arrays, small methods in closed form -/
/-- q: the program that is being filled (tree q + 2, code q + 4); cc: cells of code -/
def LN (ln : Nat → Nat) (q cc : Nat) : Prop := (q = 9 ∨ q = 10) ∧ ln 15 ≤ 4096 ∧ ln 16 = ln 15 ∧ ln 17 = ln 15 ∧ ln 18 = ln 15 ∧ ln 19 = ln 15 ∧ ln 20 = ln 15 ∧ ln 21 = 512 ∧ ln 22 = 512 ∧ ln 23 = 512 ∧ (∀ a, 33 ≤ a → a ≤ 44 → ln a = ln 15) ∧ ln (q + 36) = cc ∧ cc ≤ 4096
theorem LN_q {ln : Nat → Nat} {q cc : Nat} (h : LN ln q cc) : q = 9 ∨ q = 10 := h.1
theorem LN_t {ln : Nat → Nat} {q cc : Nat} (h : LN ln q cc) {a : Nat} (h1 : 33 ≤ a) (h2 : a ≤ 44) : ln a = ln 15 := h.2.2.2.2.2.2.2.2.2.2.1 a h1 h2
/-- what reading may change -/
def okI (q o k : Nat) : Prop := (o = 1 ∧ 2 ≤ k) ∨ o = 2 ∨ (o = 3 ∧ 3 ≤ k) ∨ o = 4 ∨ o = 5 ∨ o = q ∨ o = q + 2 ∨ o = q + 4
def okA (q a : Nat) : Prop := (17 ≤ a ∧ a ≤ 23) ∨ (6 * q - 21 ≤ a ∧ a ≤ 6 * q - 16) ∨ a = q + 36
def fR (q : Nat) (τ u : zSt) : Prop := (∀ o k, ¬ okI q o k → zI u o k = zI τ o k) ∧ (∀ o k, o ≠ 1 → zL u o k = zL τ o k) ∧ (∀ o k, zR u o k = zR τ o k) ∧ (∀ a i, ¬ okA q a → zA u a i = zA τ a i) ∧ (∀ a i, a ≠ 16 → zB u a i = zB τ a i)
theorem fR_refl {q : Nat} {τ : zSt} : fR q τ τ := ⟨fun _ _ _ => rfl, fun _ _ _ => rfl, fun _ _ => rfl, fun _ _ _ => rfl, fun _ _ _ => rfl⟩
theorem fR_trans {q : Nat} {τ u v : zSt} (h : fR q τ u) (h2 : fR q u v) : fR q τ v := ⟨fun o k q => (h2.1 o k q).trans (h.1 o k q), fun o k q => (h2.2.1 o k q).trans (h.2.1 o k q), fun o k => (h2.2.2.1 o k).trans (h.2.2.1 o k), fun a i q => (h2.2.2.2.1 a i q).trans (h.2.2.2.1 a i q), fun a i q => (h2.2.2.2.2 a i q).trans (h.2.2.2.2 a i q)⟩
theorem fR_I {q o k : Nat} {v : Int32} {τ u : zSt} (h : fR q τ u) (ho : okI q o k) : fR q τ (zsI u o k v) := by
  refine ⟨fun o' k' hn => ?_, h.2.1, h.2.2.1, h.2.2.2.1, h.2.2.2.2⟩
  rw [zI_I, if_neg (fun e => hn (by rw [e.1, e.2]; exact ho))]
  exact h.1 o' k' hn
theorem fR_A {q a i : Nat} {v : Int32} {τ u : zSt} (h : fR q τ u) (ho : okA q a) : fR q τ (zsA u a i v) := by
  refine ⟨h.1, h.2.1, h.2.2.1, fun a' i' hn => ?_, h.2.2.2.2⟩
  rw [zA_A, if_neg (fun e => hn (by rw [e.1]; exact ho))]
  exact h.2.2.2.1 a' i' hn
theorem fR_B {q i : Nat} {v : Int64} {τ u : zSt} (h : fR q τ u) : fR q τ (zsB u 16 i v) := by
  refine ⟨h.1, h.2.1, h.2.2.1, h.2.2.2.1, fun a' i' hn => ?_⟩
  rw [zB_B, if_neg (fun e => hn e.1)]
  exact h.2.2.2.2 a' i' hn
theorem fR_L {q k : Nat} {v : Int64} {τ u : zSt} (h : fR q τ u) : fR q τ (zsL u 1 k v) := by
  refine ⟨h.1, fun o' k' hn => ?_, h.2.2.1, h.2.2.2.1, h.2.2.2.2⟩
  rw [zL_L, if_neg (fun e => hn e.1)]
  exact h.2.1 o' k' hn
/-- a list of cells is written -/
def wrL (a : Nat) : Nat → List Int32 → zSt → zSt
  | _, [], σ => σ
  | p, v :: l, σ => wrL a (p + 1) l (zsA σ a p v)
/-- cells are added, and kept if all of them fit -/
def ckS (ln : Nat → Nat) (q : Nat) (σ : zSt) (p : Nat) (l : List Int32) : zSt := zsI (if p + l.length ≤ ln (q + 36) then wrL (q + 36) p l σ else σ) (q + 4) 1 (nI (p + l.length))
theorem wrL_fR {q : Nat} {τ : zSt} : ∀ (l : List Int32) (p : Nat) (u : zSt), fR q τ u → fR q τ (wrL (q + 36) p l u) := by
  intro l
  induction l with
  | nil => intro p u h; exact h
  | cons v l ih => intro p u h; exact ih (p + 1) _ (fR_A h (Or.inr (Or.inr rfl)))
theorem wrL_A {a b i : Nat} : ∀ (l : List Int32) (p : Nat) (σ : zSt), (b ≠ a ∨ i < p ∨ p + l.length ≤ i) → zA (wrL a p l σ) b i = zA σ b i := by
  intro l
  induction l with
  | nil => intro p σ _; rfl
  | cons v l ih =>
    intro p σ h
    rw [List.length_cons] at h
    show zA (wrL a (p + 1) l (zsA σ a p v)) b i = _
    rw [ih (p + 1) _ (by omega), zA_A, if_neg (by omega)]
theorem wrL_I {a o k : Nat} : ∀ (l : List Int32) (p : Nat) (σ : zSt), zI (wrL a p l σ) o k = zI σ o k := by
  intro l
  induction l with
  | nil => intro p σ; rfl
  | cons v l ih => intro p σ; exact (ih (p + 1) _).trans (zI_A ..)
theorem wrL_L {a o k : Nat} : ∀ (l : List Int32) (p : Nat) (σ : zSt), zL (wrL a p l σ) o k = zL σ o k := by
  intro l
  induction l with
  | nil => intro p σ; rfl
  | cons v l ih => intro p σ; exact (ih (p + 1) _).trans (zL_A ..)
theorem wrL_R {a o k : Nat} : ∀ (l : List Int32) (p : Nat) (σ : zSt), zR (wrL a p l σ) o k = zR σ o k := by
  intro l
  induction l with
  | nil => intro p σ; rfl
  | cons v l ih => intro p σ; exact (ih (p + 1) _).trans rfl
theorem wrL_B {a o k : Nat} : ∀ (l : List Int32) (p : Nat) (σ : zSt), zB (wrL a p l σ) o k = zB σ o k := by
  intro l
  induction l with
  | nil => intro p σ; rfl
  | cons v l ih => intro p σ; exact (ih (p + 1) _).trans (zB_A ..)
theorem wrL_v {a : Nat} : ∀ (l : List Int32) (p : Nat) (σ : zSt) (j : Nat) (v : Int32), l[j]? = some v → zA (wrL a p l σ) a (p + j) = v := by
  intro l
  induction l with
  | nil => intro p σ j v h; simp at h
  | cons w l ih =>
    intro p σ j v h
    show zA (wrL a (p + 1) l (zsA σ a p w)) a (p + j) = _
    cases j with
    | zero =>
      rw [List.getElem?_cons_zero] at h
      cases h
      rw [wrL_A l (p + 1) _ (by omega), zA_A, if_pos ⟨rfl, rfl⟩]
    | succ j =>
      rw [List.getElem?_cons_succ] at h
      have := ih (p + 1) (zsA σ a p w) j v h
      rw [show p + 1 + j = p + (j + 1) by omega] at this
      exact this
/-- the cells l, if they fit -/
def cdC (ln : Nat → Nat) (q : Nat) (σ : zSt) (p : Nat) (l : List Int32) : Prop := p + l.length ≤ ln (q + 36) → ∀ j v, l[j]? = some v → zA σ (q + 36) (p + j) = v
theorem ckS_cd {ln : Nat → Nat} {q p : Nat} {σ : zSt} {l : List Int32} : cdC ln q (ckS ln q σ p l) p l := by
  intro h j v hj
  unfold ckS
  rw [zA_I, if_pos h]
  exact wrL_v l p σ j v hj
theorem ckS_A {ln : Nat → Nat} {q p a i : Nat} {σ : zSt} {l : List Int32} (h : a ≠ q + 36 ∨ i < p) : zA (ckS ln q σ p l) a i = zA σ a i := by
  unfold ckS
  rw [zA_I]
  by_cases e : p + l.length ≤ ln (q + 36)
  · rw [if_pos e]; exact wrL_A l p σ (by omega)
  · rw [if_neg e]
theorem ckS_I {ln : Nat → Nat} {q p o k : Nat} {σ : zSt} {l : List Int32} (h : ¬ (o = q + 4 ∧ k = 1)) : zI (ckS ln q σ p l) o k = zI σ o k := by
  unfold ckS
  rw [zI_I, if_neg h]
  by_cases e : p + l.length ≤ ln (q + 36)
  · rw [if_pos e]; exact wrL_I l p σ
  · rw [if_neg e]
theorem ckS_s {ln : Nat → Nat} {q p : Nat} {σ : zSt} {l : List Int32} : zI (ckS ln q σ p l) (q + 4) 1 = nI (p + l.length) := by
  unfold ckS
  rw [zI_I, if_pos ⟨rfl, rfl⟩]
theorem ckS_L {ln : Nat → Nat} {q p o k : Nat} {σ : zSt} {l : List Int32} : zL (ckS ln q σ p l) o k = zL σ o k := by
  unfold ckS
  rw [zL_I]
  by_cases e : p + l.length ≤ ln (q + 36)
  · rw [if_pos e]; exact wrL_L l p σ
  · rw [if_neg e]
theorem ckS_R {ln : Nat → Nat} {q p o k : Nat} {σ : zSt} {l : List Int32} : zR (ckS ln q σ p l) o k = zR σ o k := by
  unfold ckS
  show zR (if p + l.length ≤ ln (q + 36) then wrL (q + 36) p l σ else σ) o k = _
  by_cases e : p + l.length ≤ ln (q + 36)
  · rw [if_pos e]; exact wrL_R l p σ
  · rw [if_neg e]
theorem ckS_B {ln : Nat → Nat} {q p o k : Nat} {σ : zSt} {l : List Int32} : zB (ckS ln q σ p l) o k = zB σ o k := by
  unfold ckS
  rw [zB_I]
  by_cases e : p + l.length ≤ ln (q + 36)
  · rw [if_pos e]; exact wrL_B l p σ
  · rw [if_neg e]
theorem ckS_fR {ln : Nat → Nat} {q p : Nat} {τ σ : zSt} {l : List Int32} (h : fR q τ σ) : fR q τ (ckS ln q σ p l) := by
  unfold ckS
  refine fR_I ?_ (by unfold okI; omega)
  by_cases e : p + l.length ≤ ln (q + 36)
  · rw [if_pos e]; exact wrL_fR l p σ h
  · rw [if_neg e]; exact h
theorem addC {ln : Nat → Nat} {N M q p : Nat} {v : Int32} {σ : zSt} (hl : ln (q + 36) ≤ 4096) (h : zI σ (q + 4) 1 = nI p) (hp : p < 2 ^ 30) : fX0_add ln N M (q + 4) v σ = some ((), ckS ln q σ p [v]) := by
  unfold fX0_add fX0_add_b22 ckS
  rw [h, show q + 4 + 32 = q + 36 by omega]
  by_cases e : p + 1 ≤ ln (q + 36)
  · rw [if_neg (fun q => by rw [nI_le' (by omega) (by omega)] at q; omega), nI_clamp (by omega), if_neg (ixN (by omega) (by omega)), bnd_e, zI_A, h, bnd_e, nI_1, if_pos (show p + [v].length ≤ ln (q + 36) from e)]
    rfl
  · rw [if_pos ((nI_le' (by omega) (by omega)).mpr (by omega)), bnd_e, nI_1, if_neg (show ¬ p + [v].length ≤ ln (q + 36) from e)]
    rfl
theorem addC2 {ln : Nat → Nat} {N M q p : Nat} {v w : Int32} {σ : zSt} (hl : ln (q + 36) ≤ 4096) (h : zI σ (q + 4) 1 = nI p) (hp : p < 2 ^ 30) : fX0_addWith ln N M (q + 4) v w σ = some ((), ckS ln q σ p [v, w]) := by
  unfold fX0_addWith fX0_addWith_b36 ckS
  rw [h, show q + 4 + 32 = q + 36 by omega]
  have e2 : nI p + 2 = nI (p + 2) := nI_add p 2
  by_cases e : p + 2 ≤ ln (q + 36)
  · obtain ⟨L, hL⟩ : ∃ L, ln (q + 36) = L + 1 := ⟨ln (q + 36) - 1, by omega⟩
    rw [hL, nI_pred, if_neg (fun q => by rw [nI_le' (by omega) (by omega)] at q; omega), nI_clamp (by omega), if_neg (ixN (by omega) (by omega)), bnd_e, zI_A, h, nI_1, nI_clamp (by omega), if_neg (ixN (by omega) (by omega)), bnd_e, zI_A, zI_A, h, bnd_e, e2, if_pos (show p + [v, w].length ≤ L + 1 by rw [← hL]; exact e)]
    rfl
  · have hc : nI (ln (q + 36)) - 1 ≤ nI p := by
      by_cases z : ln (q + 36) = 0
      · rw [z, show nI 0 - 1 = -1 from rfl, Int32.le_iff_toInt_le, nI_toInt (by omega)]
        show (-1 : Int) ≤ _
        omega
      · obtain ⟨L, hL⟩ : ∃ L, ln (q + 36) = L + 1 := ⟨ln (q + 36) - 1, by omega⟩
        rw [hL, nI_pred]
        exact (nI_le' (by omega) (by omega)).mpr (by omega)
    rw [if_pos hc, bnd_e, e2, if_neg (show ¬ p + [v, w].length ≤ ln (q + 36) from e)]
    rfl
theorem addC3 {ln : Nat → Nat} {N M q p : Nat} {v w y : Int32} {σ : zSt} (hl : ln (q + 36) ≤ 4096) (h : zI σ (q + 4) 1 = nI p) (hp : p < 2 ^ 30) : fX0_addWithTwo ln N M (q + 4) v w y σ = some ((), ckS ln q σ p [v, w, y]) := by
  unfold fX0_addWithTwo fX0_addWithTwo_b48 ckS
  rw [h, show q + 4 + 32 = q + 36 by omega]
  have e2 : nI p + 2 = nI (p + 2) := nI_add p 2
  have e3 : nI p + 3 = nI (p + 3) := nI_add p 3
  have hm : ∀ L : Nat, nI (L + 2) - 2 = nI L := fun L => by
    rw [← nI_add L 2]
    exact Int32.add_sub_cancel ..
  by_cases e : p + 3 ≤ ln (q + 36)
  · obtain ⟨L, hL⟩ : ∃ L, ln (q + 36) = L + 2 := ⟨ln (q + 36) - 2, by omega⟩
    rw [hL, hm, if_neg (fun q => by rw [nI_le' (by omega) (by omega)] at q; omega), nI_clamp (by omega), if_neg (ixN (by omega) (by omega)), bnd_e, zI_A, h, nI_1, nI_clamp (by omega), if_neg (ixN (by omega) (by omega)), bnd_e, zI_A, zI_A, h, e2, nI_clamp (by omega), if_neg (ixN (by omega) (by omega)), bnd_e, zI_A, zI_A, zI_A, h, bnd_e, e3, if_pos (show p + [v, w, y].length ≤ L + 2 by rw [← hL]; exact e)]
    rfl
  · have hc : nI (ln (q + 36)) - 2 ≤ nI p := by
      by_cases z : ln (q + 36) < 2
      · have : ln (q + 36) = 0 ∨ ln (q + 36) = 1 := by omega
        rcases this with z | z
        · rw [z, show nI 0 - 2 = -2 from rfl, Int32.le_iff_toInt_le, nI_toInt (by omega)]
          show (-2 : Int) ≤ _
          omega
        · rw [z, show nI 1 - 2 = -1 from rfl, Int32.le_iff_toInt_le, nI_toInt (by omega)]
          show (-1 : Int) ≤ _
          omega
      · obtain ⟨L, hL⟩ : ∃ L, ln (q + 36) = L + 2 := ⟨ln (q + 36) - 2, by omega⟩
        rw [hL, hm]
        exact (nI_le' (by omega) (by omega)).mpr (by omega)
    rw [if_pos hc, bnd_e, e3, if_neg (show ¬ p + [v, w, y].length ≤ ln (q + 36) from e)]
    rfl
/-- a node is added -/
def taS (σ : zSt) (q s : Nat) (k a b c : Int32) : zSt := zsI (zsA (zsA (zsA (zsA (zsA (zsA σ (6 * q - 21) s k) (6 * q - 20) s a) (6 * q - 19) s b) (6 * q - 18) s c) (6 * q - 17) s (-1)) (6 * q - 16) s (-1)) (q + 2) 6 (nI (s + 1))
theorem treeC {ln : Nat → Nat} {N M q s cc : Nat} {k a b c : Int32} {σ : zSt} (hL : LN ln q cc) (h : zI σ (q + 2) 6 = nI s) (hs : s < ln 15) : fX9_add ln N M (q + 2) k a b c σ = some (nI s, taS σ q s k a b c) := by
  have hq := hL.1
  have h15 := hL.2.1
  unfold fX9_add taS
  rw [show 6 * (q + 2) - 33 = 6 * q - 21 by omega, show 6 * (q + 2) - 32 = 6 * q - 20 by omega, show 6 * (q + 2) - 31 = 6 * q - 19 by omega, show 6 * (q + 2) - 30 = 6 * q - 18 by omega, show 6 * (q + 2) - 29 = 6 * q - 17 by omega, show 6 * (q + 2) - 28 = 6 * q - 16 by omega]
  rw [LN_t hL (a := 6 * q - 21) (by omega) (by omega), LN_t hL (a := 6 * q - 20) (by omega) (by omega), LN_t hL (a := 6 * q - 19) (by omega) (by omega), LN_t hL (a := 6 * q - 18) (by omega) (by omega), LN_t hL (a := 6 * q - 17) (by omega) (by omega), LN_t hL (a := 6 * q - 16) (by omega) (by omega)]
  rw [h, if_pos (nI_lt hs (by omega)), nI_clamp (by omega), if_neg (ixN hs (by omega)), bnd_e, zI_A, h, nI_clamp (by omega), if_neg (ixN hs (by omega)), bnd_e, zI_A, zI_A, h, nI_clamp (by omega), if_neg (ixN hs (by omega)), bnd_e, zI_A, zI_A, zI_A, h, nI_clamp (by omega), if_neg (ixN hs (by omega)), bnd_e, zI_A, zI_A, zI_A, zI_A, h, nI_clamp (by omega), if_neg (ixN hs (by omega)), bnd_e, zI_A, zI_A, zI_A, zI_A, zI_A, h, nI_clamp (by omega), if_neg (ixN hs (by omega)), bnd_e, zI_A, zI_A, zI_A, zI_A, zI_A, zI_A, h, bnd_e, nI_1, zI_I, if_pos ⟨rfl, rfl⟩, nI_pred]
theorem treeC_full {ln : Nat → Nat} {N M q s cc : Nat} {k a b c : Int32} {σ : zSt} (hL : LN ln q cc) (h : zI σ (q + 2) 6 = nI s) (hs : ln 15 ≤ s) (hs2 : s < 2 ^ 30) : fX9_add ln N M (q + 2) k a b c σ = some (-1, σ) := by
  have hq := hL.1
  have h15 := hL.2.1
  unfold fX9_add
  rw [show 6 * (q + 2) - 33 = 6 * q - 21 by omega, LN_t hL (a := 6 * q - 21) (by omega) (by omega), h, if_neg (Int32.not_lt.mpr ((nI_le' (by omega) (by omega)).mpr hs))]
