/-! THE CLASS: beginAgain, compile() -/
def LM (ln : Nat → Nat) (mc io : Nat) : Prop := ln 24 = io ∧ ln 25 = io ∧ ln 26 = mc ∧ ln 27 = mc + 16 ∧ ln 28 = mc + 16 ∧ ln 29 = mc + 16 ∧ ln 30 = mc ∧ ln 31 = mc ∧ ln 32 = mc + 16 ∧ mc ≤ 4096 ∧ io ≤ 4096
def zeS (a : Nat) : Nat → Nat → zSt → zSt
  | _, 0, σ => σ
  | k, d + 1, σ => zeS a (k + 1) d (zsA σ a k 0)
theorem zeS_I {a o j : Nat} : ∀ (d k : Nat) (σ : zSt), zI (zeS a k d σ) o j = zI σ o j := by
  intro d
  induction d with
  | zero => intro k σ; rfl
  | succ d ih => intro k σ; exact (ih (k + 1) _).trans (zI_A ..)
theorem zeS_L {a o j : Nat} : ∀ (d k : Nat) (σ : zSt), zL (zeS a k d σ) o j = zL σ o j := by
  intro d
  induction d with
  | zero => intro k σ; rfl
  | succ d ih => intro k σ; exact (ih (k + 1) _).trans (zL_A ..)
theorem zeS_R {a o j : Nat} : ∀ (d k : Nat) (σ : zSt), zR (zeS a k d σ) o j = zR σ o j := by
  intro d
  induction d with
  | zero => intro k σ; rfl
  | succ d ih => intro k σ; exact (ih (k + 1) _).trans rfl
theorem zeS_B {a o j : Nat} : ∀ (d k : Nat) (σ : zSt), zB (zeS a k d σ) o j = zB σ o j := by
  intro d
  induction d with
  | zero => intro k σ; rfl
  | succ d ih => intro k σ; exact (ih (k + 1) _).trans (zB_A ..)
theorem zeS_n {a c i : Nat} : ∀ (d k : Nat) (σ : zSt), (c ≠ a ∨ i < k ∨ k + d ≤ i) → zA (zeS a k d σ) c i = zA σ c i := by
  intro d
  induction d with
  | zero => intro k σ _; rfl
  | succ d ih =>
    intro k σ h
    show zA (zeS a (k + 1) d (zsA σ a k 0)) c i = _
    rw [ih (k + 1) _ (by omega), zA_A, if_neg (by omega)]
theorem zeS_v {a i : Nat} : ∀ (d k : Nat) (σ : zSt), k ≤ i → i < k + d → zA (zeS a k d σ) a i = 0 := by
  intro d
  induction d with
  | zero => intro k σ h1 h2; omega
  | succ d ih =>
    intro k σ h1 h2
    show zA (zeS a (k + 1) d (zsA σ a k 0)) a i = _
    by_cases e : i = k
    · rw [zeS_n d (k + 1) _ (by omega), e, zA_A, if_pos ⟨rfl, rfl⟩]
    · exact ih (k + 1) _ (by omega) (by omega)
theorem fillB {ln : Nat → Nat} {N M a m : Nat} (hl : ln a = m) (hm : m ≤ 4200) : ∀ (d k f : Nat) (σ : zSt), k + d = m → d < f → fJ7_fill_53178_b5 ln N M a f 0 (nI k) (nI m) σ = some ((), zeS a k d σ) := by
  intro d
  induction d with
  | zero =>
    intro k f σ h hf
    obtain ⟨f, rfl⟩ : ∃ g, f = g + 1 := ⟨f - 1, by omega⟩
    rw [fJ7_fill_53178_b5, show k = m by omega, if_pos (Int32.le_refl _)]
    rfl
  | succ d ih =>
    intro k f σ h hf
    obtain ⟨f, rfl⟩ : ∃ g, f = g + 1 := ⟨f - 1, by omega⟩
    rw [fJ7_fill_53178_b5, if_neg (fun z => by rw [nI_le' (by omega) (by omega)] at z; omega), nI_clamp (by omega), if_neg (ixN (by omega) (by omega)), bnd_e, bnd_e, show nI k + (1 : Int32) = nI (k + 1) from nI_add _ 1]
    exact ih (k + 1) f _ (by omega) (by omega)
theorem fillC {ln : Nat → Nat} {N M a m : Nat} {σ : zSt} (hl : ln a = m) (hm : m ≤ 4200) (hN : 5000 ≤ N) : fJ7_fill_53178 ln N M a 0 σ = some ((), zeS a 0 m σ) := by
  unfold fJ7_fill_53178
  rw [bnd_e, bnd_e, hl, show fJ7_fill_53178_b5 ln N M a N 0 0 (nI m) σ = fJ7_fill_53178_b5 ln N M a N 0 (nI 0) (nI m) σ from rfl]
  exact fillB hl hm m 0 N σ (by omega) (by omega)
theorem pushItC {ln : Nat → Nat} {N M mc io k : Nat} {a b : Int32} {σ : zSt} (hl : LM ln mc io) (h : zI σ 8 11 = nI k) (hk : k < mc + 16) : fX10_pushItem ln N M a b σ = some ((), zsI (zsA (zsA σ 28 k a) 29 k b) 8 11 (nI (k + 1))) := by
  obtain ⟨l1, l2, l3, l4, l5, l6, l7, l8, l9, l10, l11⟩ := hl
  unfold fX10_pushItem
  rw [l5, l6, h, if_neg (nI_pos (by omega)), if_neg (fun w => by rw [nI_le' (by omega) (by omega)] at w; omega), if_neg (fun w => by rw [nI_le' (by omega) (by omega)] at w; omega), nI_clamp (by omega), if_neg (ixN (by omega) (by omega)), bnd_e, zI_A, h, nI_clamp (by omega), if_neg (ixN (by omega) (by omega)), bnd_e, zI_A, zI_A, h, bnd_e, show nI k + (1 : Int32) = nI (k + 1) from nI_add _ 1]
def fAg (τ u : zSt) : Prop := (∀ o k, ¬ (o = 6 ∧ (k = 3 ∨ k = 4)) → ¬ (o = 7 ∧ 3 ≤ k) → ¬ (o = 8 ∧ 9 ≤ k) → zI u o k = zI τ o k) ∧ (∀ o k, zL u o k = zL τ o k) ∧ (∀ o k, ¬ (o = 7 ∧ k = 2) → ¬ (o = 8 ∧ k = 8) → zR u o k = zR τ o k) ∧ (∀ a i, a ≠ 26 → a ≠ 28 → a ≠ 29 → a ≠ 30 → zA u a i = zA τ a i) ∧ (∀ a i, zB u a i = zB τ a i)
def BGg (mc q : Nat) (z : zSt) : Prop := zI z 6 3 = 0 ∧ zI z 6 4 = 0 ∧ zR z 7 2 = q + 5 ∧ zR z 8 8 = q + 3 ∧ zI z 7 3 = 0 ∧ zI z 7 4 = zI z q 2 ∧ zI z 7 5 = 0 ∧ zI z 7 6 = 0 ∧ zI z 7 7 = 0 ∧ zI z 8 9 = zI z q 2 ∧ zI z 8 10 = 0 ∧ zI z 8 11 = 1 ∧ zI z 8 12 = 0 ∧ zI z 8 13 = 0 ∧ zI z 8 14 = 0 ∧ zI z 8 15 = 0 ∧ zA z 28 0 = 3 ∧ zA z 29 0 = zI z q 3 ∧ (∀ i, i < mc → zA z 26 i = 0 ∧ zA z 30 i = 0)
def agS1 (q mc : Nat) (σ : zSt) : zSt := zsI (zsI (zsI (zsI (zsI (zeS 26 0 mc (zsR σ 7 2 ((q + 4) + 1))) 7 3 0) 7 4 (zI σ q 2)) 7 5 0) 7 6 0) 7 7 0
def agS2 (q mc : Nat) (σ : zSt) : zSt := zsI (zsI (zsI (zsI (zsI (zsI (zeS 30 0 mc (zsI (zsR σ 8 8 ((q + 2) + 1)) 8 9 (zI σ q 2))) 8 10 0) 8 11 0) 8 12 0) 8 13 0) 8 14 0) 8 15 0
theorem mbgC {ln : Nat → Nat} {N M mc io q : Nat} {σ : zSt} (hl : LM ln mc io) (hN : 5000 ≤ N) (hq : q = 9 ∨ q = 10) : fX3_begin ln N M q σ = some ((), agS1 q mc σ) := by
  obtain ⟨l1, l2, l3, l4, l5, l6, l7, l8, l9, l10, l11⟩ := hl
  unfold fX3_begin
  have hz2 : zI (zsI (zeS 26 0 mc (zsR σ 7 2 (q + 4 + 1))) 7 3 0) q 2 = zI σ q 2 := by
    rw [zI_I, if_neg (by omega), zeS_I, zI_R]
  rw [bnd_e, fillC l3 (by omega) hN, obd_s, bnd_e, bnd_e, bnd_e, bnd_e, bnd_e, hz2]
  rfl
theorem wbgC {ln : Nat → Nat} {N M mc io q : Nat} {σ : zSt} (hl : LM ln mc io) (hN : 5000 ≤ N) : fX10_begin ln N M q σ = obd (fX10_pushItem ln N M (3 : Int32) (zI (agS2 q mc σ) q 3) (agS2 q mc σ)) (fun _ σ12 => some ((), σ12)) := by
  obtain ⟨l1, l2, l3, l4, l5, l6, l7, l8, l9, l10, l11⟩ := hl
  unfold fX10_begin
  rw [bnd_e, bnd_e, fillC l7 (by omega) hN, obd_s, bnd_e, bnd_e, bnd_e, bnd_e, bnd_e, bnd_e]
  rfl
theorem agnC {ln : Nat → Nat} {N M mc io q : Nat} {σ : zSt} (hl : LM ln mc io) (hN : 5000 ≤ N) (hq : q = 9 ∨ q = 10) (h5 : zR σ 0 5 = q + 1) : wp (fX11_beginAgain ln N M σ) (fun _ z => fAg σ z ∧ BGg mc q z) := by
  have hl2 := hl
  obtain ⟨l1, l2, l3, l4, l5, l6, l7, l8, l9, l10, l11⟩ := hl2
  unfold fX11_beginAgain fX8_rewind
  rw [bnd_e, bnd_e, obd_s, rbP hq (show zR (zsI (zsI σ 6 3 0) 6 4 0) 0 5 = q + 1 from h5), mbgC hl hN hq, obd_s]
  have a1 : ∀ o k, ¬ (o = 6 ∧ (k = 3 ∨ k = 4)) → ¬ (o = 7 ∧ 3 ≤ k) → zI (agS1 q mc (zsI (zsI σ 6 3 0) 6 4 0)) o k = zI σ o k := fun o k c1 c2 => by
    unfold agS1
    rw [zI_I, if_neg (by omega), zI_I, if_neg (by omega), zI_I, if_neg (by omega), zI_I, if_neg (by omega), zI_I, if_neg (by omega), zeS_I, zI_R, zI_I, if_neg (by omega), zI_I, if_neg (by omega)]
  have a2 : zI (agS1 q mc (zsI (zsI σ 6 3 0) 6 4 0)) 6 3 = 0 ∧ zI (agS1 q mc (zsI (zsI σ 6 3 0) 6 4 0)) 6 4 = 0 ∧ zI (agS1 q mc (zsI (zsI σ 6 3 0) 6 4 0)) 7 3 = 0 ∧ zI (agS1 q mc (zsI (zsI σ 6 3 0) 6 4 0)) 7 4 = zI σ q 2 ∧ zI (agS1 q mc (zsI (zsI σ 6 3 0) 6 4 0)) 7 5 = 0 ∧ zI (agS1 q mc (zsI (zsI σ 6 3 0) 6 4 0)) 7 6 = 0 ∧ zI (agS1 q mc (zsI (zsI σ 6 3 0) 6 4 0)) 7 7 = 0 := by
    unfold agS1
    simp only [zI_I, zI_L, zI_R, zI_A, zI_B, zL_I, zL_L, zL_R, zL_A, zL_B, zA_I, zA_L, zA_R, zA_A, zA_B, zB_I, zB_L, zB_R, zB_A, zB_B, reduceIte, Nat.reduceEqDiff, Nat.reduceEqDiff, false_and, and_false, true_and, and_true, ne_eq, not_false_eq_true, not_true_eq_false, zeS_I]
  have a3 : ∀ o k, ¬ (o = 7 ∧ k = 2) → zR (agS1 q mc (zsI (zsI σ 6 3 0) 6 4 0)) o k = zR σ o k := fun o k c => by
    unfold agS1
    simp only [zR_I, zeS_R]
    rw [zR_R, if_neg c]
    rfl
  have a4 : zR (agS1 q mc (zsI (zsI σ 6 3 0) 6 4 0)) 7 2 = q + 5 := by
    unfold agS1
    simp only [zR_I, zeS_R]
    rw [zR_R, if_pos ⟨rfl, rfl⟩]
  have a5 : ∀ a i, a ≠ 26 → zA (agS1 q mc (zsI (zsI σ 6 3 0) 6 4 0)) a i = zA σ a i := fun a i c => by
    unfold agS1
    simp only [zA_I]
    rw [zeS_n _ _ _ (Or.inl c)]
    rfl
  have a6 : ∀ i, i < mc → zA (agS1 q mc (zsI (zsI σ 6 3 0) 6 4 0)) 26 i = 0 := fun i c => by
    unfold agS1
    simp only [zA_I]
    exact zeS_v _ _ _ (Nat.zero_le _) (by omega)
  have a7 : ∀ a i, zB (agS1 q mc (zsI (zsI σ 6 3 0) 6 4 0)) a i = zB σ a i := fun a i => by
    unfold agS1
    simp only [zB_I]
    rw [zeS_B]
    rfl
  have a8 : ∀ o k, zL (agS1 q mc (zsI (zsI σ 6 3 0) 6 4 0)) o k = zL σ o k := fun a i => by
    unfold agS1
    simp only [zL_I]
    rw [zeS_L]
    rfl
  revert a1 a2 a3 a4 a5 a6 a7 a8
  generalize agS1 q mc (zsI (zsI σ 6 3 0) 6 4 0) = u
  intro a1 a2 a3 a4 a5 a6 a7 a8
  obtain ⟨c1, c2, c3, c4, c5, c6, c7⟩ := a2
  rw [rbP hq ((a3 0 5 (by omega)).trans h5)]
  rw [wbgC hl hN]
  have b1 : ∀ o k, ¬ (o = 8 ∧ 9 ≤ k) → zI (agS2 q mc u) o k = zI u o k := fun o k c => by
    unfold agS2
    rw [zI_I, if_neg (by omega), zI_I, if_neg (by omega), zI_I, if_neg (by omega), zI_I, if_neg (by omega), zI_I, if_neg (by omega), zI_I, if_neg (by omega), zeS_I, zI_I, if_neg (by omega), zI_R]
  have b2 : zI (agS2 q mc u) 8 9 = zI u q 2 ∧ zI (agS2 q mc u) 8 10 = 0 ∧ zI (agS2 q mc u) 8 11 = nI 0 ∧ zI (agS2 q mc u) 8 12 = 0 ∧ zI (agS2 q mc u) 8 13 = 0 ∧ zI (agS2 q mc u) 8 14 = 0 ∧ zI (agS2 q mc u) 8 15 = 0 := by
    unfold agS2
    simp only [zI_I, zI_L, zI_R, zI_A, zI_B, zL_I, zL_L, zL_R, zL_A, zL_B, zA_I, zA_L, zA_R, zA_A, zA_B, zB_I, zB_L, zB_R, zB_A, zB_B, reduceIte, Nat.reduceEqDiff, Nat.reduceEqDiff, false_and, and_false, true_and, and_true, ne_eq, not_false_eq_true, not_true_eq_false, zeS_I]
    rfl
  have b3 : ∀ o k, ¬ (o = 8 ∧ k = 8) → zR (agS2 q mc u) o k = zR u o k := fun o k c => by
    unfold agS2
    simp only [zR_I, zeS_R]
    rw [zR_R, if_neg c]
  have b4 : zR (agS2 q mc u) 8 8 = q + 3 := by
    unfold agS2
    simp only [zR_I, zeS_R]
    rw [zR_R, if_pos ⟨rfl, rfl⟩]
  have b5 : ∀ a i, a ≠ 30 → zA (agS2 q mc u) a i = zA u a i := fun a i c => by
    unfold agS2
    simp only [zA_I]
    rw [zeS_n _ _ _ (Or.inl c)]
    rfl
  have b6 : ∀ i, i < mc → zA (agS2 q mc u) 30 i = 0 := fun i c => by
    unfold agS2
    simp only [zA_I]
    exact zeS_v _ _ _ (Nat.zero_le _) (by omega)
  have b7 : ∀ a i, zB (agS2 q mc u) a i = zB u a i := fun a i => by
    unfold agS2
    simp only [zB_I]
    rw [zeS_B]
    rfl
  have b8 : ∀ o k, zL (agS2 q mc u) o k = zL u o k := fun a i => by
    unfold agS2
    simp only [zL_I]
    rw [zeS_L]
    rfl
  revert b1 b2 b3 b4 b5 b6 b7 b8
  generalize agS2 q mc u = w
  intro b1 b2 b3 b4 b5 b6 b7 b8
  obtain ⟨d1, d2, d3, d4, d5, d6, d7⟩ := b2
  rw [pushItC hl d3 (by omega), obd_s, obd_s]
  refine wp_s ⟨⟨fun o k e1 e2 e3 => ?_, fun o k => ?_, fun o k e1 e2 => ?_, fun a i e1 e2 e3 e4 => ?_, fun a i => ?_⟩, ?_⟩
  · rw [zI_I, if_neg (by omega), zI_A, zI_A, b1 o k e3, a1 o k e1 e2]
  · rw [zL_I, zL_A, zL_A, b8, a8]
  · rw [zR_I, zR_A, zR_A, b3 o k e2, a3 o k e1]
  · rw [zA_I, zA_A, if_neg (by omega), zA_A, if_neg (by omega), b5 a i e4, a5 a i e1]
  · rw [zB_I, zB_A, zB_A, b7, a7]
  · have n8 : ∀ k, ¬ (q = 8 ∧ k = 11) := fun k => by omega
    have q2 : zI w q 2 = zI σ q 2 := (b1 q 2 (by omega)).trans (a1 q 2 (by omega) (by omega))
    refine ⟨?_, ?_, ?_, ?_, ?_, ?_, ?_, ?_, ?_, ?_, ?_, ?_, ?_, ?_, ?_, ?_, ?_, ?_, fun i hi => ⟨?_, ?_⟩⟩
    · rw [zI_I, if_neg (by omega), zI_A, zI_A, b1 6 3 (by omega)]; exact c1
    · rw [zI_I, if_neg (by omega), zI_A, zI_A, b1 6 4 (by omega)]; exact c2
    · rw [zR_I, zR_A, zR_A, b3 7 2 (by omega)]; exact a4
    · rw [zR_I, zR_A, zR_A]; exact b4
    · rw [zI_I, if_neg (by omega), zI_A, zI_A, b1 7 3 (by omega)]; exact c3
    · rw [zI_I, if_neg (by omega), zI_A, zI_A, zI_I, if_neg (by omega), zI_A, zI_A, b1 7 4 (by omega), q2]; exact c4
    · rw [zI_I, if_neg (by omega), zI_A, zI_A, b1 7 5 (by omega)]; exact c5
    · rw [zI_I, if_neg (by omega), zI_A, zI_A, b1 7 6 (by omega)]; exact c6
    · rw [zI_I, if_neg (by omega), zI_A, zI_A, b1 7 7 (by omega)]; exact c7
    · rw [zI_I, if_neg (by omega), zI_A, zI_A, zI_I, if_neg (by omega), zI_A, zI_A, q2, d1]; exact a1 q 2 (by omega) (by omega)
    · rw [zI_I, if_neg (by omega), zI_A, zI_A]; exact d2
    · rw [zI_I, if_pos ⟨rfl, rfl⟩]; rfl
    · rw [zI_I, if_neg (by omega), zI_A, zI_A]; exact d4
    · rw [zI_I, if_neg (by omega), zI_A, zI_A]; exact d5
    · rw [zI_I, if_neg (by omega), zI_A, zI_A]; exact d6
    · rw [zI_I, if_neg (by omega), zI_A, zI_A]; exact d7
    · rw [zA_I, zA_A, if_neg (by omega), zA_A, if_pos ⟨rfl, rfl⟩]
    · rw [zA_I, zA_A, if_pos ⟨rfl, rfl⟩, zI_I, if_neg (by omega), zI_A, zI_A]
    · rw [zA_I, zA_A, if_neg (by omega), zA_A, if_neg (by omega), b5 26 i (by omega)]; exact a6 i hi
    · rw [zA_I, zA_A, if_neg (by omega), zA_A, if_neg (by omega)]; exact b6 i hi
