/-! THE TEXT BY ITSELF: small methods, of both -/
def XC (gs : Nat) (vl lc gb : Nat → Int32) (n k fc e : Nat) (σ : zSt) : Prop := zI σ 8 10 = nI n ∧ zI σ 8 11 = nI k ∧ zI σ 8 12 = nI fc ∧ zI σ 8 13 = nI e ∧ (∀ i, i < n → zA σ 27 i = vl i) ∧ (∀ i, i < e → zA σ 31 i = lc i) ∧ (∀ i, i < gs → zA σ 30 i = gb i) ∧ zI σ 8 14 = 0
def XR (gs : Nat) (vl lc gb : Nat → Int32) (n k fc e : Nat) (τ : zSt) : Prop := zI τ 0 79 = nI n ∧ zI τ 0 82 = nI k ∧ zI τ 0 87 = nI fc ∧ zI τ 0 84 = nI e ∧ (∀ i, i < n → zA τ 43 i = vl i) ∧ (∀ i, i < e → zA τ 46 i = lc i) ∧ (∀ i, i < gs → zA τ 42 i = gb i) ∧ zI τ 0 75 = 0
def fWC (τ u : zSt) : Prop := (∀ o k, ¬ (o = 8 ∧ 10 ≤ k ∧ k ≤ 14) → ¬ (o = 6 ∧ (k = 3 ∨ k = 4)) → zI u o k = zI τ o k) ∧ (∀ o k, zL u o k = zL τ o k) ∧ (∀ o k, zR u o k = zR τ o k) ∧ (∀ a i, a ≠ 25 → ¬ (27 ≤ a ∧ a ≤ 32) → zA u a i = zA τ a i) ∧ (∀ a i, zB u a i = zB τ a i)
def fWR (τ u : zSt) : Prop := (∀ j, j ≠ 75 → j ≠ 79 → j ≠ 82 → j ≠ 84 → j ≠ 87 → j ≠ 12 → j ≠ 14 → zI u 0 j = zI τ 0 j) ∧ (∀ a i, a ≠ 5 → ¬ (42 ≤ a ∧ a ≤ 48) → zA u a i = zA τ a i) ∧ (∀ a i, zB u a i = zB τ a i)
theorem fWC_refl {τ : zSt} : fWC τ τ := ⟨fun _ _ _ _ => rfl, fun _ _ => rfl, fun _ _ => rfl, fun _ _ _ _ => rfl, fun _ _ => rfl⟩
theorem fWR_refl {τ : zSt} : fWR τ τ := ⟨fun _ _ _ _ _ _ _ _ => rfl, fun _ _ _ _ => rfl, fun _ _ => rfl⟩
theorem fWC_trans {τ u v : zSt} (h : fWC τ u) (h2 : fWC u v) : fWC τ v := ⟨fun o k a b => (h2.1 o k a b).trans (h.1 o k a b), fun o k => (h2.2.1 o k).trans (h.2.1 o k), fun o k => (h2.2.2.1 o k).trans (h.2.2.1 o k), fun a i c d => (h2.2.2.2.1 a i c d).trans (h.2.2.2.1 a i c d), fun a i => (h2.2.2.2.2 a i).trans (h.2.2.2.2 a i)⟩
theorem fWR_trans {τ u v : zSt} (h : fWR τ u) (h2 : fWR u v) : fWR τ v := ⟨fun j a b c d e f g => (h2.1 j a b c d e f g).trans (h.1 j a b c d e f g), fun a i c d => (h2.2.1 a i c d).trans (h.2.1 a i c d), fun a i => (h2.2.2 a i).trans (h.2.2 a i)⟩
theorem fWC_I {τ : zSt} {k : Nat} {v : Int32} (h : 10 ≤ k ∧ k ≤ 14) : fWC τ (zsI τ 8 k v) := ⟨fun o j a b => (by rw [zI_I, if_neg (by omega)]), fun _ _ => rfl, fun _ _ => rfl, fun _ _ _ _ => rfl, fun _ _ => rfl⟩
theorem fWC_I6 {τ : zSt} {k : Nat} {v : Int32} (h : k = 3 ∨ k = 4) : fWC τ (zsI τ 6 k v) := ⟨fun o j a b => (by rw [zI_I, if_neg (by omega)]), fun _ _ => rfl, fun _ _ => rfl, fun _ _ _ _ => rfl, fun _ _ => rfl⟩
theorem fWC_A {τ : zSt} {a k : Nat} {v : Int32} (h : a = 25 ∨ (27 ≤ a ∧ a ≤ 32)) : fWC τ (zsA τ a k v) := ⟨fun o j q _ => rfl, fun _ _ => rfl, fun _ _ => rfl, fun b i q r => (by rw [zA_A, if_neg (by omega)]), fun _ _ => rfl⟩
theorem fWR_I {τ : zSt} {k : Nat} {v : Int32} (h : k = 75 ∨ k = 79 ∨ k = 82 ∨ k = 84 ∨ k = 87 ∨ k = 12 ∨ k = 14) : fWR τ (zsI τ 0 k v) := ⟨fun j a b c d e f g => (by rw [zI_I, if_neg (by omega)]), fun _ _ _ _ => rfl, fun _ _ => rfl⟩
theorem fWR_A {τ : zSt} {a k : Nat} {v : Int32} (h : a = 5 ∨ (42 ≤ a ∧ a ≤ 48)) : fWR τ (zsA τ a k v) := ⟨fun _ _ _ _ _ _ _ _ => rfl, fun b i q r => (by rw [zA_A, if_neg (by omega)]), fun _ _ => rfl⟩
theorem fW_tr {c : Nat} {σ σ' τ τ' : zSt} (h : fWC σ σ') (h2 : fWR τ τ') : trS c σ τ σ' τ' := ⟨fun a i a1 a2 => h.2.2.2.1 a i (by omega) (by omega), fun a i a1 a2 => h2.2.1 a i (by omega) (by omega), fun i => h2.2.1 11 i (by omega) (by omega)⟩
section
variable {ln : Nat → Nat} {N M mc io gs n k fc e : Nat} {vl lc gb : Nat → Int32} {σ τ : zSt}
-- the class
theorem XC_v {v : Int32} (h : XC gs vl lc gb n k fc e σ) : XC gs (mset vl n v) lc gb (n + 1) k fc e (zsI (zsA σ 27 n v) 8 10 (nI (n + 1))) := by
  obtain ⟨h1, h2, h3, h4, h5, h6, h7, h8⟩ := h
  refine ⟨by rw [zI_I, if_pos ⟨rfl, rfl⟩], by rw [zI_I, if_neg (by omega), zI_A]; exact h2, by rw [zI_I, if_neg (by omega), zI_A]; exact h3, by rw [zI_I, if_neg (by omega), zI_A]; exact h4, fun i hi => ?_, fun i hi => ?_, fun i hi => ?_, by rw [zI_I, if_neg (by omega), zI_A]; exact h8⟩
  · rw [zA_I, zA_A]
    unfold mset
    by_cases c : i = n
    · rw [if_pos ⟨rfl, c⟩, if_pos c]
    · rw [if_neg (fun w => c w.2), if_neg c]; exact h5 i (by omega)
  · rw [zA_I, zA_A, if_neg (by omega)]; exact h6 i hi
  · rw [zA_I, zA_A, if_neg (by omega)]; exact h7 i hi
theorem XC_10 (n' : Nat) (hn : n' ≤ n) (h : XC gs vl lc gb n k fc e σ) : XC gs vl lc gb n' k fc e (zsI σ 8 10 (nI n')) := by
  obtain ⟨h1, h2, h3, h4, h5, h6, h7, h8⟩ := h
  exact ⟨by rw [zI_I, if_pos ⟨rfl, rfl⟩], by rw [zI_I, if_neg (by omega)]; exact h2, by rw [zI_I, if_neg (by omega)]; exact h3, by rw [zI_I, if_neg (by omega)]; exact h4, fun i hi => h5 i (by omega), h6, h7, by rw [zI_I, if_neg (by omega)]; exact h8⟩
theorem XC_11 (k' : Nat) (h : XC gs vl lc gb n k fc e σ) : XC gs vl lc gb n k' fc e (zsI σ 8 11 (nI k')) := by
  obtain ⟨h1, h2, h3, h4, h5, h6, h7, h8⟩ := h
  exact ⟨by rw [zI_I, if_neg (by omega)]; exact h1, by rw [zI_I, if_pos ⟨rfl, rfl⟩], by rw [zI_I, if_neg (by omega)]; exact h3, by rw [zI_I, if_neg (by omega)]; exact h4, h5, h6, h7, by rw [zI_I, if_neg (by omega)]; exact h8⟩
theorem XC_A {a p : Nat} {v : Int32} (ha : a = 28 ∨ a = 29 ∨ a = 32 ∨ a = 25) (h : XC gs vl lc gb n k fc e σ) : XC gs vl lc gb n k fc e (zsA σ a p v) := by
  obtain ⟨h1, h2, h3, h4, h5, h6, h7, h8⟩ := h
  exact ⟨h1, h2, h3, h4, fun i hi => by rw [zA_A, if_neg (by omega)]; exact h5 i hi, fun i hi => by rw [zA_A, if_neg (by omega)]; exact h6 i hi, fun i hi => by rw [zA_A, if_neg (by omega)]; exact h7 i hi, h8⟩
theorem XC_l {p : Nat} {v : Int32} (h : XC gs vl lc gb n k fc e σ) : XC gs vl (mset lc p v) gb n k fc e (zsA σ 31 p v) := by
  obtain ⟨h1, h2, h3, h4, h5, h6, h7, h8⟩ := h
  refine ⟨h1, h2, h3, h4, fun i hi => by rw [zA_A, if_neg (by omega)]; exact h5 i hi, fun i hi => ?_, fun i hi => by rw [zA_A, if_neg (by omega)]; exact h7 i hi, h8⟩
  rw [zA_A]
  unfold mset
  by_cases c : i = p
  · rw [if_pos ⟨rfl, c⟩, if_pos c]
  · rw [if_neg (fun w => c w.2), if_neg c]; exact h6 i hi
theorem XC_g {p : Nat} {v : Int32} (h : XC gs vl lc gb n k fc e σ) : XC gs vl lc (mset gb p v) n k fc e (zsA σ 30 p v) := by
  obtain ⟨h1, h2, h3, h4, h5, h6, h7, h8⟩ := h
  refine ⟨h1, h2, h3, h4, fun i hi => by rw [zA_A, if_neg (by omega)]; exact h5 i hi, fun i hi => by rw [zA_A, if_neg (by omega)]; exact h6 i hi, fun i hi => ?_, h8⟩
  rw [zA_A]
  unfold mset
  by_cases c : i = p
  · rw [if_pos ⟨rfl, c⟩, if_pos c]
  · rw [if_neg (fun w => c w.2), if_neg c]; exact h7 i hi
theorem wpvC {v : Int32} (hl : LM ln mc io) (h : XC gs vl lc gb n k fc e σ) (hn : n < mc + 16) : fX10_pushValue ln N M v σ = some ((), zsI (zsA σ 27 n v) 8 10 (nI (n + 1))) := by
  obtain ⟨l1, l2, l3, l4, l5, l6, l7, l8, l9, l10, l11⟩ := hl
  unfold fX10_pushValue
  rw [l4, h.1, if_neg (nI_pos (by omega)), if_neg (fun w => by rw [nI_le' (by omega) (by omega)] at w; omega), nI_clamp (by omega), if_neg (ixN (by omega) (by omega)), bnd_e, zI_A, h.1, show nI n + (1 : Int32) = nI (n + 1) from nI_add _ 1, bnd_e]
theorem wppC (hl : LM ln mc io) (h : XC gs vl lc gb (n + 1) k fc e σ) (hn : n < mc + 16) : fX10_popValue ln N M σ = some (vl n, zsI σ 8 10 (nI n)) := by
  obtain ⟨l1, l2, l3, l4, l5, l6, l7, l8, l9, l10, l11⟩ := hl
  unfold fX10_popValue
  rw [l4, h.1, if_neg (fun w => by rw [show (0 : Int32) = nI 0 from rfl, nI_le' (by omega) (by omega)] at w; omega), if_pos ((nI_le' (by omega) (by omega)).mpr (by omega)), show nI (n + 1) - (1 : Int32) = nI n from nI_sb n 1, bnd_e, show zI (zsI σ 8 10 (nI n)) 8 10 = nI n by rw [zI_I, if_pos ⟨rfl, rfl⟩], nI_clamp (by omega), if_neg (ixN (by omega) (by omega)), zA_I, h.2.2.2.2.1 n (by omega)]
theorem wgaC {a : Nat} (hl : LM ln mc io) (h : XC gs vl lc gb n k fc e σ) (ha : a < gs) (hg : gs ≤ mc) : fX10_globalAt ln N M (nI a) σ = some (gb a, σ) := by
  obtain ⟨l1, l2, l3, l4, l5, l6, l7, l8, l9, l10, l11⟩ := hl
  unfold fX10_globalAt
  rw [l7, if_neg (nI_pos (by omega)), if_neg (fun w => by rw [nI_le' (by omega) (by omega)] at w; omega), nI_clamp (by omega), if_neg (ixN (by omega) (by omega)), h.2.2.2.2.2.2.1 a ha]
theorem wgsC {a : Nat} {v : Int32} (hl : LM ln mc io) (ha : a < mc) : fX10_setGlobal ln N M (nI a) v σ = some ((), zsA σ 30 a v) := by
  obtain ⟨l1, l2, l3, l4, l5, l6, l7, l8, l9, l10, l11⟩ := hl
  unfold fX10_setGlobal
  rw [l7, if_neg (nI_pos (by omega)), if_neg (fun w => by rw [nI_le' (by omega) (by omega)] at w; omega), nI_clamp (by omega), if_neg (ixN (by omega) (by omega)), bnd_e]
theorem wfsC {a : Nat} {v : Int32} (hl : LM ln mc io) (ha : a < mc) : fX10_setFrameCell ln N M (nI a) v σ = some ((), zsA σ 31 a v) := by
  obtain ⟨l1, l2, l3, l4, l5, l6, l7, l8, l9, l10, l11⟩ := hl
  unfold fX10_setFrameCell
  rw [l8, if_neg (nI_pos (by omega)), if_neg (fun w => by rw [nI_le' (by omega) (by omega)] at w; omega), nI_clamp (by omega), if_neg (ixN (by omega) (by omega)), bnd_e]
theorem wceC {b : Nat} {x : Int32} (hl : LM ln mc io) (h : XC gs vl lc gb n k (fc + 1) e σ) (hf : fc + 1 ≤ mc + 16) (hb : zA σ 32 fc = nI b) : fX10_cellOf ln N M x σ = some (nI b + x, σ) := by
  obtain ⟨l1, l2, l3, l4, l5, l6, l7, l8, l9, l10, l11⟩ := hl
  unfold fX10_cellOf
  rw [l9, h.2.2.1, if_neg (fun w => by rw [show (0 : Int32) = nI 0 from rfl, nI_le' (by omega) (by omega)] at w; omega), if_pos ((nI_le' (by omega) (by omega)).mpr (by omega)), show nI (fc + 1) - (1 : Int32) = nI fc from nI_sb fc 1, nI_clamp (by omega), if_neg (ixN (by omega) (by omega)), hb]
-- the class's tree
/-- the class's tree has s nodes -/
def TRc (ln : Nat → Nat) (c s : Nat) (σ : zSt) : Prop := (c = 9 ∨ c = 10) ∧ zR σ 8 8 = c + 3 ∧ zI σ (c + 2) 6 = nI s ∧ s ≤ ln 15 ∧ ln 15 ≤ 4096 ∧ (∀ a, 33 ≤ a → a ≤ 44 → ln a = ln 15)
theorem TRc_f {c s : Nat} {σ' : zSt} (f : fWC σ σ') (h : TRc ln c s σ) : TRc ln c s σ' := by
  have hc := h.1
  exact ⟨h.1, (f.2.2.1 _ _).trans h.2.1, (f.1 _ _ (by omega) (by omega)).trans h.2.2.1, h.2.2.2⟩
theorem tkC {c s m : Nat} (h : TRc ln c s σ) (hm : m < s) : fX9_kindOf ln N M (c + 2) (nI m) σ = some (zA σ (6 * c - 21) m, σ) ∧ fX9_aOf ln N M (c + 2) (nI m) σ = some (zA σ (6 * c - 20) m, σ) ∧ fX9_bOf ln N M (c + 2) (nI m) σ = some (zA σ (6 * c - 19) m, σ) ∧ fX9_cOf ln N M (c + 2) (nI m) σ = some (zA σ (6 * c - 18) m, σ) ∧ fX9_dOf ln N M (c + 2) (nI m) σ = some (zA σ (6 * c - 17) m, σ) ∧ fX9_nextOf ln N M (c + 2) (nI m) σ = some (zA σ (6 * c - 16) m, σ) ∧ fX9_has ln N M (c + 2) (nI m) σ = some (1, σ) := by
  obtain ⟨h1, h2, h3, h4, h5, h6⟩ := h
  have hne : ¬ nI s ≤ nI m := fun w => by rw [nI_le' (by omega) (by omega)] at w; omega
  have hp : ¬ nI m < 0 := nI_pos (by omega)
  unfold fX9_kindOf fX9_aOf fX9_bOf fX9_cOf fX9_dOf fX9_nextOf fX9_has
  rw [if_neg hp, if_neg hp, if_neg hp, if_neg hp, if_neg hp, if_neg hp, if_neg hp, h3, if_neg hne, if_neg hne, if_neg hne, if_neg hne, if_neg hne, if_neg hne, if_neg hne, nI_clamp (by omega)]
  rw [show 6 * (c + 2) - 33 = 6 * c - 21 by omega, show 6 * (c + 2) - 32 = 6 * c - 20 by omega, show 6 * (c + 2) - 31 = 6 * c - 19 by omega, show 6 * (c + 2) - 30 = 6 * c - 18 by omega, show 6 * (c + 2) - 29 = 6 * c - 17 by omega, show 6 * (c + 2) - 28 = 6 * c - 16 by omega]
  rw [h6 (6 * c - 21) (by omega) (by omega), h6 (6 * c - 20) (by omega) (by omega), h6 (6 * c - 19) (by omega) (by omega), h6 (6 * c - 18) (by omega) (by omega), h6 (6 * c - 17) (by omega) (by omega), h6 (6 * c - 16) (by omega) (by omega), if_neg (ixN (by omega) (by omega)), if_neg (ixN (by omega) (by omega)), if_neg (ixN (by omega) (by omega)), if_neg (ixN (by omega) (by omega)), if_neg (ixN (by omega) (by omega)), if_neg (ixN (by omega) (by omega))]
  exact ⟨rfl, rfl, rfl, rfl, rfl, rfl, rfl⟩
theorem thN {q : Nat} : fX9_has ln N M q (-1) σ = some (0, σ) := by
  unfold fX9_has
  rw [if_pos (by decide)]
-- the reference
theorem XR_v {v : Int32} (h : XR gs vl lc gb n k fc e τ) : XR gs (mset vl n v) lc gb (n + 1) k fc e (zsI (zsA τ 43 n v) 0 79 (nI (n + 1))) := by
  obtain ⟨h1, h2, h3, h4, h5, h6, h7, h8⟩ := h
  refine ⟨by rw [zI_I, if_pos ⟨rfl, rfl⟩], by rw [zI_I, if_neg (by omega), zI_A]; exact h2, by rw [zI_I, if_neg (by omega), zI_A]; exact h3, by rw [zI_I, if_neg (by omega), zI_A]; exact h4, fun i hi => ?_, fun i hi => ?_, fun i hi => ?_, by rw [zI_I, if_neg (by omega), zI_A]; exact h8⟩
  · rw [zA_I, zA_A]
    unfold mset
    by_cases c : i = n
    · rw [if_pos ⟨rfl, c⟩, if_pos c]
    · rw [if_neg (fun w => c w.2), if_neg c]; exact h5 i (by omega)
  · rw [zA_I, zA_A, if_neg (by omega)]; exact h6 i hi
  · rw [zA_I, zA_A, if_neg (by omega)]; exact h7 i hi
theorem XR_79 (n' : Nat) (hn : n' ≤ n) (h : XR gs vl lc gb n k fc e τ) : XR gs vl lc gb n' k fc e (zsI τ 0 79 (nI n')) := by
  obtain ⟨h1, h2, h3, h4, h5, h6, h7, h8⟩ := h
  exact ⟨by rw [zI_I, if_pos ⟨rfl, rfl⟩], by rw [zI_I, if_neg (by omega)]; exact h2, by rw [zI_I, if_neg (by omega)]; exact h3, by rw [zI_I, if_neg (by omega)]; exact h4, fun i hi => h5 i (by omega), h6, h7, by rw [zI_I, if_neg (by omega)]; exact h8⟩
theorem XR_82 (k' : Nat) (h : XR gs vl lc gb n k fc e τ) : XR gs vl lc gb n k' fc e (zsI τ 0 82 (nI k')) := by
  obtain ⟨h1, h2, h3, h4, h5, h6, h7, h8⟩ := h
  exact ⟨by rw [zI_I, if_neg (by omega)]; exact h1, by rw [zI_I, if_pos ⟨rfl, rfl⟩], by rw [zI_I, if_neg (by omega)]; exact h3, by rw [zI_I, if_neg (by omega)]; exact h4, h5, h6, h7, by rw [zI_I, if_neg (by omega)]; exact h8⟩
theorem XR_A {a p : Nat} {v : Int32} (ha : a = 44 ∨ a = 45 ∨ a = 47 ∨ a = 48 ∨ a = 5) (h : XR gs vl lc gb n k fc e τ) : XR gs vl lc gb n k fc e (zsA τ a p v) := by
  obtain ⟨h1, h2, h3, h4, h5, h6, h7, h8⟩ := h
  exact ⟨h1, h2, h3, h4, fun i hi => by rw [zA_A, if_neg (by omega)]; exact h5 i hi, fun i hi => by rw [zA_A, if_neg (by omega)]; exact h6 i hi, fun i hi => by rw [zA_A, if_neg (by omega)]; exact h7 i hi, h8⟩
theorem XR_l {p : Nat} {v : Int32} (h : XR gs vl lc gb n k fc e τ) : XR gs vl (mset lc p v) gb n k fc e (zsA τ 46 p v) := by
  obtain ⟨h1, h2, h3, h4, h5, h6, h7, h8⟩ := h
  refine ⟨h1, h2, h3, h4, fun i hi => by rw [zA_A, if_neg (by omega)]; exact h5 i hi, fun i hi => ?_, fun i hi => by rw [zA_A, if_neg (by omega)]; exact h7 i hi, h8⟩
  rw [zA_A]
  unfold mset
  by_cases c : i = p
  · rw [if_pos ⟨rfl, c⟩, if_pos c]
  · rw [if_neg (fun w => c w.2), if_neg c]; exact h6 i hi
theorem XR_g {p : Nat} {v : Int32} (h : XR gs vl lc gb n k fc e τ) : XR gs vl lc (mset gb p v) n k fc e (zsA τ 42 p v) := by
  obtain ⟨h1, h2, h3, h4, h5, h6, h7, h8⟩ := h
  refine ⟨h1, h2, h3, h4, fun i hi => by rw [zA_A, if_neg (by omega)]; exact h5 i hi, fun i hi => by rw [zA_A, if_neg (by omega)]; exact h6 i hi, fun i hi => ?_, h8⟩
  rw [zA_A]
  unfold mset
  by_cases c : i = p
  · rw [if_pos ⟨rfl, c⟩, if_pos c]
  · rw [if_neg (fun w => c w.2), if_neg c]; exact h7 i hi
theorem wgvR {v : Int32} (h : XR gs vl lc gb n k fc e τ) (hn : n < 4120) : fX12_gives N v τ = some ((), zsI (zsA τ 43 n v) 0 79 (nI (n + 1))) := by
  unfold fX12_gives
  rw [h.1, nI_clamp (by omega), if_neg (ixN (by omega) (by omega)), bnd_e, zI_A, h.1, show nI n + (1 : Int32) = nI (n + 1) from nI_add _ 1, bnd_e]
theorem wgoR (h : XR gs vl lc gb (n + 1) k fc e τ) (hn : n < 4120) : fX12_goes N τ = some (vl n, zsI τ 0 79 (nI n)) := by
  unfold fX12_goes
  rw [h.1, show nI (n + 1) - (1 : Int32) = nI n from nI_sb n 1, bnd_e, show zI (zsI τ 0 79 (nI n)) 0 79 = nI n by rw [zI_I, if_pos ⟨rfl, rfl⟩], nI_clamp (by omega), if_neg (ixN (by omega) (by omega)), zA_I, h.2.2.2.2.1 n (by omega)]
theorem wwhR {b f np : Nat} {x : Int32} (h : XR gs vl lc gb n k (fc + 1) e τ) (hf : fc < 4120) (hb : zA τ 47 fc = nI b) (hf2 : zA τ 48 fc = nI f) (hfl : f < 1400) (h10 : zA τ 10 f = nI np) : fX12_where N x τ = some (if 0 ≤ x then nI b + (nI np + x) else nI b + (x + 2 + nI np), τ) := by
  unfold fX12_where
  rw [h.2.2.1, show nI (fc + 1) - (1 : Int32) = nI fc from nI_sb fc 1, nI_clamp (by omega), if_neg (ixN (by omega) (by omega)), hf2, nI_clamp (by omega), if_neg (ixN (by omega) (by omega)), h10, bnd_e, if_neg (ixN (by omega) (by omega)), hb]
  by_cases c : 0 ≤ x
  · rw [if_pos c, if_pos c]
  · rw [if_neg c, if_neg c]
end
