/-! THE TEXT BY ITSELF: a FUNCTION is entered -/
section
variable {ln : Nat → Nat} {N M mc io gs n k fc e : Nat} {vl lc gb : Nat → Int32} {σ τ : zSt}
theorem XC_31 {p : Nat} {v : Int32} (hp : e ≤ p) (h : XC gs vl lc gb n k fc e σ) : XC gs vl lc gb n k fc e (zsA σ 31 p v) := by
  obtain ⟨h1, h2, h3, h4, h5, h6, h7, h8⟩ := h
  exact ⟨h1, h2, h3, h4, fun i hi => by rw [zA_A, if_neg (by omega)]; exact h5 i hi, fun i hi => by rw [zA_A, if_neg (by omega)]; exact h6 i hi, fun i hi => by rw [zA_A, if_neg (by omega)]; exact h7 i hi, h8⟩
/-- the cells of a FRAME become 0 -/
theorem en63 {x1 x2 : Int32} {s : Nat} (hl : LM ln mc io) (hs : e + s ≤ mc) : ∀ (d q f : Nat) (σ : zSt), XC gs vl lc gb n k fc e σ → q + d = s → d < f → ∃ z, fX10_enter_b63 ln N M f x1 x2 (nI s) (nI q) σ = fX10_enter_b92 ln N M N x1 (nI s) (x2 - 1) z ∧ XC gs vl lc gb n k fc e z ∧ z.1 = σ.1 ∧ z.2.1 = σ.2.1 ∧ z.2.2.1 = σ.2.2.1 ∧ z.2.2.2.2 = σ.2.2.2.2 ∧ (∀ a i, a ≠ 31 → zA z a i = zA σ a i) ∧ (∀ i, zA z 31 i = if e + q ≤ i ∧ i < e + s then 0 else zA σ 31 i) := by
  have hmc := hl.2.2.2.2.2.2.2.2.2.1
  intro d
  induction d with
  | zero =>
    intro q f σ h hq hf
    obtain ⟨f, rfl⟩ : ∃ g, f = g + 1 := ⟨f - 1, by omega⟩
    rw [fX10_enter_b63, show q = s by omega, if_pos (Int32.le_refl _), bnd_e]
    exact ⟨σ, rfl, h, rfl, rfl, rfl, rfl, fun _ _ _ => rfl, fun i => by rw [if_neg (by omega)]⟩
  | succ d ih =>
    intro q f σ h hq hf
    obtain ⟨f, rfl⟩ : ∃ g, f = g + 1 := ⟨f - 1, by omega⟩
    rw [fX10_enter_b63, if_neg (fun w => by rw [nI_le' (by omega) (by omega)] at w; omega), h.2.2.2.1, nI_add, wfsC hl (by omega), obd_s, show nI q + (1 : Int32) = nI (q + 1) from nI_add _ 1, bnd_e]
    obtain ⟨z, z1, z2, z3, z4, z5, z6, z7, z8⟩ := ih (q + 1) f _ (XC_31 (p := e + q) (v := 0) (by omega) h) (by omega) (by omega)
    refine ⟨z, z1, z2, z3, z4, z5, z6, fun a i ha => (z7 a i ha).trans (by rw [zA_A, if_neg (by omega)]), fun i => ?_⟩
    rw [z8 i, zA_A]
    by_cases c1 : e + (q + 1) ≤ i ∧ i < e + s
    · rw [if_pos c1, if_pos (by omega)]
    · rw [if_neg c1]
      by_cases c2 : i = e + q
      · rw [if_pos ⟨rfl, c2⟩, if_pos (by omega)]
      · rw [if_neg (fun w => c2 w.2), if_neg (by omega)]
/-- the parameters come -/
theorem en92 {x1 : Int32} {s : Nat} (hl : LM ln mc io) (hs : e + s ≤ mc) : ∀ (r f : Nat) (σ : zSt), XC gs vl lc gb (n + r) k fc e σ → r ≤ s → r < f → n + r < mc + 16 → ∃ z, fX10_enter_b92 ln N M f x1 (nI s) (nI r - 1) σ = obd (fX10_openFrame ln N M (nI s) z) (fun _ σ13 => obd (fX10_pushItem ln N M (6 : Int32) x1 σ13) (fun _ σ15 => obd (fX10_pushItem ln N M (4 : Int32) x1 σ15) (fun _ σ17 => some ((), σ17)))) ∧ XC gs vl lc gb n k fc e z ∧ (∀ o q, ¬ (o = 8 ∧ q = 10) → zI z o q = zI σ o q) ∧ z.2.1 = σ.2.1 ∧ z.2.2.1 = σ.2.2.1 ∧ z.2.2.2.2 = σ.2.2.2.2 ∧ (∀ a i, a ≠ 31 → zA z a i = zA σ a i) ∧ (∀ i, zA z 31 i = if e ≤ i ∧ i < e + r then vl (n + (i - e)) else zA σ 31 i) := by
  have hmc := hl.2.2.2.2.2.2.2.2.2.1
  intro r
  induction r with
  | zero =>
    intro f σ h hr hf hn
    obtain ⟨f, rfl⟩ : ∃ g, f = g + 1 := ⟨f - 1, by omega⟩
    rw [fX10_enter_b92, if_pos (show nI 0 - 1 < 0 by decide)]
    exact ⟨σ, rfl, h, fun _ _ _ => rfl, rfl, rfl, rfl, fun _ _ _ => rfl, fun i => by rw [if_neg (by omega)]⟩
  | succ r ih =>
    intro f σ h hr hf hn
    obtain ⟨f, rfl⟩ : ∃ g, f = g + 1 := ⟨f - 1, by omega⟩
    rw [fX10_enter_b92, show nI (r + 1) - (1 : Int32) = nI r from nI_sb r 1, if_neg (nI_pos (by omega)), wppC hl (show XC gs vl lc gb (n + r + 1) k fc e σ from h) (by omega), obd_s, h.2.2.2.1, nI_add, wfsC hl (by omega), obd_s, show nI r + (-1 : Int32) = nI r - 1 from (Int32.sub_eq_add_neg _ _).symm, bnd_e]
    obtain ⟨z, z1, z2, z3, z4, z5, z6, z7, z8⟩ := ih f _ (XC_31 (p := e + r) (v := vl (n + r)) (by omega) (XC_10 (n + r) (by omega) h)) (by omega) (by omega) (by omega)
    refine ⟨z, z1, z2, fun o q hq => (z3 o q hq).trans (by rw [zI_A, zI_I, if_neg hq]), z4, z5, z6, fun a i ha => (z7 a i ha).trans (by rw [zA_A, if_neg (by omega), zA_I]), fun i => ?_⟩
    rw [z8 i, zA_A, zA_I]
    by_cases c1 : e ≤ i ∧ i < e + r
    · rw [if_pos c1, if_pos (by omega)]
    · rw [if_neg c1]
      by_cases c2 : i = e + r
      · rw [if_pos ⟨rfl, c2⟩, if_pos (by omega), c2, show n + (e + r - e) = n + r by omega]
      · rw [if_neg (fun w => c2 w.2), if_neg (by omega)]
/-- the same in the reference -/
theorem en90 {f ms np : Nat} (hf : f < 1400) (h10 : zA τ 10 f = nI np) (h12 : zA τ 12 f = nI ms) (hb : e + np + ms ≤ 5400) (hk : k + 2 ≤ 4119) : ∀ (d q g : Nat) (u : zSt), zA u 10 f = nI np → zA u 12 f = nI ms → zI u 0 84 = nI e → zI u 0 82 = nI k → q + d = ms → d < g → ∃ z, fX12_enters_b90 N g (nI f) (nI q) u = some ((), zsI (zsA (zsA (zsI (zsA (zsA (zsI z 0 84 (nI (e + (np + ms)))) 44 k 6) 45 k (nI f)) 0 82 (nI (k + 1))) 44 (k + 1) 8) 45 (k + 1) (zA u 11 f)) 0 82 (nI (k + 1 + 1))) ∧ z.1 = u.1 ∧ z.2.2.2.2 = u.2.2.2.2 ∧ (∀ a i, a ≠ 46 → zA z a i = zA u a i) ∧ (∀ i, zA z 46 i = if e + np + q ≤ i ∧ i < e + np + ms then 0 else zA u 46 i) := by
  intro d
  induction d with
  | zero =>
    intro q g u u10 u12 u84 u82 hq hg
    obtain ⟨g, rfl⟩ : ∃ x, g = x + 1 := ⟨g - 1, by omega⟩
    rw [fX12_enters_b90, nI_clamp (by omega), if_neg (ixN (by omega) (by omega)), u12, show q = ms by omega, if_pos (Int32.le_refl _), if_neg (ixN (by omega) (by omega)), if_neg (ixN (by omega) (by omega)), u84, u10, nI_add, nI_add, bnd_e, pushR (k := k) (by rw [zI_I, if_neg (by omega)]; exact u82) (by omega), obd_s, if_neg (ixN (by omega) (by omega)), pushR (k := k + 1) (by rw [zI_I, if_pos ⟨rfl, rfl⟩]) (by omega), obd_s]
    refine ⟨u, ?_, rfl, rfl, fun _ _ _ => rfl, fun i => by rw [if_neg (by omega)]⟩
    rw [show zA (zsI (zsA (zsA (zsI u 0 84 (nI (e + (np + ms)))) 44 k 6) 45 k (nI f)) 0 82 (nI (k + 1))) 11 f = zA u 11 f by rw [zA_I, zA_A, if_neg (by omega), zA_A, if_neg (by omega)]; rfl]
  | succ d ih =>
    intro q g u u10 u12 u84 u82 hq hg
    obtain ⟨g, rfl⟩ : ∃ x, g = x + 1 := ⟨g - 1, by omega⟩
    rw [fX12_enters_b90, nI_clamp (by omega), if_neg (ixN (by omega) (by omega)), u12, if_neg (fun w => by rw [nI_le' (by omega) (by omega)] at w; omega), if_neg (ixN (by omega) (by omega)), u84, u10, nI_add, nI_add, nI_clamp (by omega), if_neg (ixN (by omega) (by omega)), show nI q + (1 : Int32) = nI (q + 1) from nI_add _ 1, bnd_e, bnd_e]
    obtain ⟨z, z1, z2, z3, z4, z5⟩ := ih (q + 1) g (zsA u 46 (e + np + q) 0) (by rw [zA_A, if_neg (by omega)]; exact u10) (by rw [zA_A, if_neg (by omega)]; exact u12) (by rw [zI_A]; exact u84) (by rw [zI_A]; exact u82) (by omega) (by omega)
    rw [show zA (zsA u 46 (e + np + q) 0) 11 f = zA u 11 f by rw [zA_A, if_neg (by omega)]] at z1
    refine ⟨z, z1, z2, z3, fun a i ha => (z4 a i ha).trans (by rw [zA_A, if_neg (by omega)]), fun i => ?_⟩
    rw [z5 i, zA_A]
    by_cases c1 : e + np + (q + 1) ≤ i ∧ i < e + np + ms
    · rw [if_pos c1, if_pos (by omega)]
    · rw [if_neg c1]
      by_cases c2 : i = e + np + q
      · rw [if_pos ⟨rfl, c2⟩, if_pos (by omega)]
      · rw [if_neg (fun w => c2 w.2), if_neg (by omega)]
theorem en50 {f np : Nat} (hf : f < 1400) (hb : e + np ≤ 5400) (hn : n + np ≤ 4119) : ∀ (d q g : Nat) (u : zSt), zA u 10 f = nI np → zI u 0 84 = nI e → zI u 0 79 = nI n → (∀ i, i < n + np → zA u 43 i = vl i) → q + d = np → d < g → ∃ z, fX12_enters_b50 N g (nI f) (nI q) u = fX12_enters_b90 N N (nI f) 0 z ∧ z.1 = u.1 ∧ z.2.2.2.2 = u.2.2.2.2 ∧ (∀ a i, a ≠ 46 → zA z a i = zA u a i) ∧ (∀ i, zA z 46 i = if e + q ≤ i ∧ i < e + np then vl (n + (i - e)) else zA u 46 i) := by
  intro d
  induction d with
  | zero =>
    intro q g u u10 u84 u79 uv hq hg
    obtain ⟨g, rfl⟩ : ∃ x, g = x + 1 := ⟨g - 1, by omega⟩
    rw [fX12_enters_b50, nI_clamp (by omega), if_neg (ixN (by omega) (by omega)), u10, show q = np by omega, if_pos (Int32.le_refl _), bnd_e]
    exact ⟨u, rfl, rfl, rfl, fun _ _ _ => rfl, fun i => by rw [if_neg (by omega)]⟩
  | succ d ih =>
    intro q g u u10 u84 u79 uv hq hg
    obtain ⟨g, rfl⟩ : ∃ x, g = x + 1 := ⟨g - 1, by omega⟩
    rw [fX12_enters_b50, nI_clamp (by omega), if_neg (ixN (by omega) (by omega)), u10, if_neg (fun w => by rw [nI_le' (by omega) (by omega)] at w; omega), u79, u84, nI_add, nI_add, nI_clamp (by omega), if_neg (ixN (by omega) (by omega)), nI_clamp (by omega), if_neg (ixN (by omega) (by omega)), show nI q + (1 : Int32) = nI (q + 1) from nI_add _ 1, bnd_e, bnd_e, uv (n + q) (by omega)]
    obtain ⟨z, z1, z2, z3, z4, z5⟩ := ih (q + 1) g (zsA u 46 (e + q) (vl (n + q))) (by rw [zA_A, if_neg (by omega)]; exact u10) (by rw [zI_A]; exact u84) (by rw [zI_A]; exact u79) (fun i hi => by rw [zA_A, if_neg (by omega)]; exact uv i hi) (by omega) (by omega)
    refine ⟨z, z1, z2, z3, fun a i ha => (z4 a i ha).trans (by rw [zA_A, if_neg (by omega)]), fun i => ?_⟩
    rw [z5 i, zA_A]
    by_cases c1 : e + (q + 1) ≤ i ∧ i < e + np
    · rw [if_pos c1, if_pos (by omega)]
    · rw [if_neg c1]
      by_cases c2 : i = e + q
      · rw [if_pos ⟨rfl, c2⟩, if_pos (by omega), c2, show n + (e + q - e) = n + q by omega]
      · rw [if_neg (fun w => c2 w.2), if_neg (by omega)]
end
