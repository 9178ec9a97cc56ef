/-! THE MACHINE: its small methods, of both -/
theorem nI_sb (a b : Nat) : nI (a + b) - nI b = nI a := by
  rw [← nI_add]
  exact Int32.add_sub_cancel _ _
def mset (mem : Nat → Int32) (a : Nat) (v : Int32) : Nat → Int32 := fun i => if i = a then v else mem i
/-- the class's machine -/
def MV (mc : Nat) (mem : Nat → Int32) (pc sp fp : Nat) (σ : zSt) : Prop := zI σ 7 3 = nI pc ∧ zI σ 7 4 = nI sp ∧ zI σ 7 5 = nI fp ∧ (∀ i, i < mc → zA σ 26 i = mem i) ∧ zI σ 7 6 = 0
/-- the reference's machine -/
def MW (mc : Nat) (mem : Nat → Int32) (pc sp fp : Nat) (τ : zSt) : Prop := zI τ 0 72 = nI pc ∧ zI τ 0 73 = nI sp ∧ zI τ 0 74 = nI fp ∧ (∀ i, i < mc → zA τ 3 i = mem i) ∧ zI τ 0 75 = 0
def fMC (τ u : zSt) : Prop := (∀ o k, ¬ (o = 7 ∧ 3 ≤ k ∧ k ≤ 6) → zI u o k = zI τ o k) ∧ (∀ o k, zL u o k = zL τ o k) ∧ (∀ o k, zR u o k = zR τ o k) ∧ (∀ a i, a ≠ 26 → zA u a i = zA τ a i) ∧ (∀ a i, zB u a i = zB τ a i)
def fMR (τ u : zSt) : Prop := (∀ j, ¬ (72 ≤ j ∧ j ≤ 75) → zI u 0 j = zI τ 0 j) ∧ (∀ a i, a ≠ 3 → zA u a i = zA τ a i) ∧ (∀ a i, zB u a i = zB τ a i)
theorem fMC_refl {τ : zSt} : fMC τ τ := ⟨fun _ _ _ => rfl, fun _ _ => rfl, fun _ _ => rfl, fun _ _ _ => rfl, fun _ _ => rfl⟩
theorem fMC_trans {τ u v : zSt} (h : fMC τ u) (h2 : fMC u v) : fMC τ v := ⟨fun o k q => (h2.1 o k q).trans (h.1 o k q), fun o k => (h2.2.1 o k).trans (h.2.1 o k), fun o k => (h2.2.2.1 o k).trans (h.2.2.1 o k), fun a i q => (h2.2.2.2.1 a i q).trans (h.2.2.2.1 a i q), fun a i => (h2.2.2.2.2 a i).trans (h.2.2.2.2 a i)⟩
theorem fMC_I {τ : zSt} {k : Nat} {v : Int32} (h : 3 ≤ k ∧ k ≤ 6) : fMC τ (zsI τ 7 k v) := ⟨fun o j q => (by rw [zI_I, if_neg (by omega)]), fun _ _ => rfl, fun _ _ => rfl, fun _ _ _ => rfl, fun _ _ => rfl⟩
theorem fMC_A {τ : zSt} {k : Nat} {v : Int32} : fMC τ (zsA τ 26 k v) := ⟨fun o j q => rfl, fun _ _ => rfl, fun _ _ => rfl, fun a i q => (by rw [zA_A, if_neg (by omega)]), fun _ _ => rfl⟩
theorem fMR_refl {τ : zSt} : fMR τ τ := ⟨fun _ _ => rfl, fun _ _ _ => rfl, fun _ _ => rfl⟩
theorem fMR_trans {τ u v : zSt} (h : fMR τ u) (h2 : fMR u v) : fMR τ v := ⟨fun o q => (h2.1 o q).trans (h.1 o q), fun a i q => (h2.2.1 a i q).trans (h.2.1 a i q), fun a i => (h2.2.2 a i).trans (h.2.2 a i)⟩
theorem fMR_I {τ : zSt} {k : Nat} {v : Int32} (h : 72 ≤ k ∧ k ≤ 75) : fMR τ (zsI τ 0 k v) := ⟨fun j q => (by rw [zI_I, if_neg (by omega)]), fun _ _ _ => rfl, fun _ _ => rfl⟩
theorem fMR_A {τ : zSt} {k : Nat} {v : Int32} : fMR τ (zsA τ 3 k v) := ⟨fun j q => rfl, fun a i q => (by rw [zA_A, if_neg (by omega)]), fun _ _ => rfl⟩
/-- the code, in both -/
def CDc (ln : Nat → Nat) (c sz : Nat) (C : Nat → Int32) (σ : zSt) : Prop := (c = 9 ∨ c = 10) ∧ zR σ 7 2 = c + 5 ∧ zI σ (c + 4) 1 = nI sz ∧ (∀ i, i < sz → zA σ (c + 36) i = C i) ∧ sz ≤ ln (c + 36) ∧ ln (c + 36) ≤ 4096
def CDr (sz : Nat) (C : Nat → Int32) (τ : zSt) : Prop := zI τ 0 6 = nI sz ∧ (∀ i, i < sz → zA τ 2 i = C i) ∧ sz ≤ 4096
theorem CDc_f {ln : Nat → Nat} {c sz : Nat} {C : Nat → Int32} {σ u : zSt} (h : CDc ln c sz C σ) (hf : fMC σ u) : CDc ln c sz C u := by
  have hc := h.1
  exact ⟨h.1, (hf.2.2.1 _ _).trans h.2.1, (hf.1 _ _ (by omega)).trans h.2.2.1, fun i hi => (hf.2.2.2.1 _ _ (by omega)).trans (h.2.2.2.1 i hi), h.2.2.2.2⟩
section
variable {ln : Nat → Nat} {N M mc c sz : Nat} {C mem : Nat → Int32} {pc sp fp : Nat} {σ τ : zSt}
theorem MV_I3 {p : Nat} (h : MV mc mem pc sp fp σ) : MV mc mem p sp fp (zsI σ 7 3 (nI p)) := ⟨by rw [zI_I, if_pos ⟨rfl, rfl⟩], by rw [zI_I, if_neg (by omega)]; exact h.2.1, by rw [zI_I, if_neg (by omega)]; exact h.2.2.1, h.2.2.2.1, by rw [zI_I, if_neg (by omega)]; exact h.2.2.2.2⟩
theorem MV_I4 {p : Nat} (h : MV mc mem pc sp fp σ) : MV mc mem pc p fp (zsI σ 7 4 (nI p)) := ⟨by rw [zI_I, if_neg (by omega)]; exact h.1, by rw [zI_I, if_pos ⟨rfl, rfl⟩], by rw [zI_I, if_neg (by omega)]; exact h.2.2.1, h.2.2.2.1, by rw [zI_I, if_neg (by omega)]; exact h.2.2.2.2⟩
theorem MV_I5 {p : Nat} (h : MV mc mem pc sp fp σ) : MV mc mem pc sp p (zsI σ 7 5 (nI p)) := ⟨by rw [zI_I, if_neg (by omega)]; exact h.1, by rw [zI_I, if_neg (by omega)]; exact h.2.1, by rw [zI_I, if_pos ⟨rfl, rfl⟩], h.2.2.2.1, by rw [zI_I, if_neg (by omega)]; exact h.2.2.2.2⟩
theorem MV_A {p : Nat} {v : Int32} (h : MV mc mem pc sp fp σ) : MV mc (mset mem p v) pc sp fp (zsA σ 26 p v) := ⟨by rw [zI_A]; exact h.1, by rw [zI_A]; exact h.2.1, by rw [zI_A]; exact h.2.2.1, fun i hi => by
  rw [zA_A]
  unfold mset
  by_cases e : i = p
  · rw [if_pos ⟨rfl, e⟩, if_pos e]
  · rw [if_neg (fun a => e a.2), if_neg e]; exact h.2.2.2.1 i hi, by rw [zI_A]; exact h.2.2.2.2⟩
theorem MW_I2 {p : Nat} (h : MW mc mem pc sp fp τ) : MW mc mem p sp fp (zsI τ 0 72 (nI p)) := ⟨by rw [zI_I, if_pos ⟨rfl, rfl⟩], by rw [zI_I, if_neg (by omega)]; exact h.2.1, by rw [zI_I, if_neg (by omega)]; exact h.2.2.1, h.2.2.2.1, by rw [zI_I, if_neg (by omega)]; exact h.2.2.2.2⟩
theorem MW_I3 {p : Nat} (h : MW mc mem pc sp fp τ) : MW mc mem pc p fp (zsI τ 0 73 (nI p)) := ⟨by rw [zI_I, if_neg (by omega)]; exact h.1, by rw [zI_I, if_pos ⟨rfl, rfl⟩], by rw [zI_I, if_neg (by omega)]; exact h.2.2.1, h.2.2.2.1, by rw [zI_I, if_neg (by omega)]; exact h.2.2.2.2⟩
theorem MW_I4 {p : Nat} (h : MW mc mem pc sp fp τ) : MW mc mem pc sp p (zsI τ 0 74 (nI p)) := ⟨by rw [zI_I, if_neg (by omega)]; exact h.1, by rw [zI_I, if_neg (by omega)]; exact h.2.1, by rw [zI_I, if_pos ⟨rfl, rfl⟩], h.2.2.2.1, by rw [zI_I, if_neg (by omega)]; exact h.2.2.2.2⟩
theorem MW_A {p : Nat} {v : Int32} (h : MW mc mem pc sp fp τ) : MW mc (mset mem p v) pc sp fp (zsA τ 3 p v) := ⟨by rw [zI_A]; exact h.1, by rw [zI_A]; exact h.2.1, by rw [zI_A]; exact h.2.2.1, fun i hi => by
  rw [zA_A]
  unfold mset
  by_cases e : i = p
  · rw [if_pos ⟨rfl, e⟩, if_pos e]
  · rw [if_neg (fun a => e a.2), if_neg e]; exact h.2.2.2.1 i hi, by rw [zI_A]; exact h.2.2.2.2⟩
-- the class
theorem mldC {a : Nat} (hl : ln 26 = mc) (hm : mc ≤ 4096) (h : MV mc mem pc sp fp σ) (ha : a < mc) : fX3_load ln N M (nI a) σ = some (mem a, σ) := by
  unfold fX3_load
  rw [hl, if_neg (nI_pos (by omega)), if_neg (fun w => by rw [nI_le' (by omega) (by omega)] at w; omega), nI_clamp (by omega), if_neg (ixN (by omega) (by omega)), h.2.2.2.1 a ha]
theorem mstC {a : Nat} {v : Int32} (hl : ln 26 = mc) (hm : mc ≤ 4096) (ha : a < mc) : fX3_store ln N M (nI a) v σ = some ((), zsA σ 26 a v) := by
  unfold fX3_store
  rw [hl, if_neg (nI_pos (by omega)), if_neg (fun w => by rw [nI_le' (by omega) (by omega)] at w; omega), nI_clamp (by omega), if_neg (ixN (by omega) (by omega)), bnd_e]
theorem mpopC {s : Nat} (hl : ln 26 = mc) (hm : mc ≤ 4096) (h : MV mc mem pc (s + 1) fp σ) (hs : s < mc) : fX3_pop ln N M σ = some (mem s, zsI σ 7 4 (nI s)) := by
  unfold fX3_pop
  rw [h.2.1, show nI (s + 1) - (1 : Int32) = nI s from nI_sb s 1, bnd_e, zI_I, if_pos ⟨rfl, rfl⟩, mldC hl hm (MV_I4 h) hs, obd_s]
theorem mpushC {v : Int32} (hl : ln 26 = mc) (hm : mc ≤ 4096) (h : MV mc mem pc sp fp σ) (hs : sp ≤ mc) : fX3_push ln N M v σ = some ((), if sp < mc then zsI (zsA σ 26 sp v) 7 4 (nI (sp + 1)) else zsI σ 7 6 4) := by
  unfold fX3_push fX3_push_b42
  rw [hl, h.2.1, if_neg (nI_pos (by omega))]
  by_cases c : sp < mc
  · rw [if_pos c, if_neg (fun w => by rw [nI_le' (by omega) (by omega)] at w; omega), nI_clamp (by omega), if_neg (ixN (by omega) (by omega)), bnd_e, zI_A, h.2.1, show nI sp + (1 : Int32) = nI (sp + 1) from nI_add _ 1, bnd_e]
  · rw [if_neg c, if_pos ((nI_le' (by omega) (by omega)).mpr (by omega)), bnd_e]
theorem mnxC (hC : CDc ln c sz C σ) (h : MV mc mem pc sp fp σ) (hp : pc < sz) : fX3_next ln N M σ = some (C pc, zsI σ 7 3 (nI (pc + 1))) := by
  obtain ⟨hc, r, s1, s2, s3, s4⟩ := hC
  unfold fX3_next
  rw [h.1, show nI pc + (1 : Int32) = nI (pc + 1) from nI_add _ 1, bnd_e, rbC hc (show zR (zsI σ 7 3 (nI (pc + 1))) 7 2 = c + 5 from r), zI_I, if_pos ⟨rfl, rfl⟩, show nI (pc + 1) - (1 : Int32) = nI pc from nI_sb pc 1, atC (n := sz) (nI pc) (show sz ≤ ln (c + 4 + 32) from s3) (show ln (c + 4 + 32) ≤ 4096 from s4) (by rw [zI_I, if_neg (by omega)]; exact s1), obd_s]
  unfold rdS
  rw [if_neg (nI_pos (by omega)), if_neg (fun w => by rw [nI_le' (by omega) (by omega)] at w; omega), nI_clamp (by omega), zA_I, s2 pc hp]
theorem mexC (hC : CDc ln c sz C σ) (h : MV mc mem pc sp fp σ) (hp : pc < sz) : fX3_execute ln N M σ = (if C pc < (24 : Int32) then fX3_execute_b49 ln N M (C pc) (zsI σ 7 3 (nI (pc + 1))) else if (26 : Int32) < C pc then fX3_execute_b49 ln N M (C pc) (zsI σ 7 3 (nI (pc + 1))) else obd (fX3_pop ln N M (zsI σ 7 3 (nI (pc + 1)))) (fun r11 σ12 => obd (fX11_ofOne ln N M (C pc) r11 σ12) (fun r13 σ14 => obd (fX3_push ln N M r13 σ14) (fun _ σ16 => some ((), σ16))))) := by
  obtain ⟨hc, r, s1, s2, s3, s4⟩ := hC
  unfold fX3_execute
  rw [rbC hc r, h.1, atC (n := sz) (nI pc) (show sz ≤ ln (c + 4 + 32) from s3) (show ln (c + 4 + 32) ≤ 4096 from s4) s1, obd_s, h.1, bnd_e, show nI pc + (1 : Int32) = nI (pc + 1) from nI_add _ 1]
  have e : rdS sz (zA σ (c + 4 + 32)) (nI pc) = C pc := by
    unfold rdS
    rw [if_neg (nI_pos (by omega)), if_neg (fun w => by rw [nI_le' (by omega) (by omega)] at w; omega), nI_clamp (by omega)]
    exact s2 pc hp
  rw [e]
-- the reference
theorem rtopR {s : Nat} (hm : mc ≤ 4096) (h : MW mc mem pc (s + 1) fp τ) (hs : s < mc) : fX12_top N τ = some (mem s, zsI τ 0 73 (nI s)) := by
  unfold fX12_top
  rw [h.2.1, show nI (s + 1) - (1 : Int32) = nI s from nI_sb s 1, bnd_e, show zI (zsI τ 0 73 (nI s)) 0 73 = nI s by rw [zI_I, if_pos ⟨rfl, rfl⟩], nI_clamp (by omega), if_neg (ixN (by omega) (by omega)), zA_I, h.2.2.2.1 s hs]
theorem rroomR {k : Nat} (h8 : zI τ 0 8 = nI mc) (hm : mc ≤ 4096) (hk : k ≤ 10000) (h : MW mc mem pc sp fp τ) (hs : sp ≤ mc) : fX12_hasRoom N (nI k) τ = some (if sp + k ≤ mc then (1, τ) else (0, zsI τ 0 75 4)) := by
  unfold fX12_hasRoom
  rw [h.2.1, h8, nI_add]
  by_cases c : sp + k ≤ mc
  · rw [if_pos c, if_pos ((nI_le' (by omega) (by omega)).mpr c)]
  · rw [if_neg c, if_neg (fun w => by rw [nI_le' (by omega) (by omega)] at w; omega), bnd_e]
theorem rpushR {v : Int32} (h8 : zI τ 0 8 = nI mc) (hm : mc ≤ 4096) (h : MW mc mem pc sp fp τ) (hs : sp ≤ mc) : fX12_pushes N v τ = some ((), if sp < mc then zsI (zsA τ 3 sp v) 0 73 (nI (sp + 1)) else zsI τ 0 75 4) := by
  unfold fX12_pushes
  rw [show (1 : Int32) = nI 1 from rfl, rroomR (k := 1) h8 hm (by omega) h hs]
  by_cases c : sp < mc
  · rw [if_pos c, if_pos (by omega), obd_s, if_neg (by decide), h.2.1, nI_clamp (by omega), if_neg (ixN (by omega) (by omega)), bnd_e, zI_A, h.2.1, nI_add, bnd_e]
  · rw [if_neg c, if_neg (by omega), obd_s, if_pos rfl]
theorem actR (hC : CDr sz C τ) (h8 : zI τ 0 8 = nI mc) (hm : mc ≤ 4096) {gs : Nat} (h29 : zI τ 0 29 = nI gs) (hg : gs ≤ mc) (h : MW mc mem pc sp fp τ) (hp : pc < sz) : ∃ x y, fX12_act N τ = fX12_act_b84 N (C pc) x y τ ∧ (pc + 1 < sz → x = C (pc + 1)) ∧ (pc + 2 < sz → y = C (pc + 2)) := by
  obtain ⟨s1, s2, s3⟩ := hC
  unfold fX12_act fX12_act_b55
  rw [h29, h8, if_pos ((nI_le' (by omega) (by omega)).mpr hg), h.1, nI_clamp (by omega), if_neg (ixN (by omega) (by omega)), bnd_e, s2 pc hp, s1, show nI pc + (1 : Int32) = nI (pc + 1) from nI_add _ 1, show nI pc + (2 : Int32) = nI (pc + 2) from nI_add _ 2]
  by_cases c1 : pc + 1 < sz
  · rw [if_neg (fun w => by rw [nI_le' (by omega) (by omega)] at w; omega), nI_clamp (by omega), if_neg (ixN (by omega) (by omega)), s2 _ c1]
    by_cases c2 : pc + 2 < sz
    · rw [if_neg (fun w => by rw [nI_le' (by omega) (by omega)] at w; omega), nI_clamp (by omega), if_neg (ixN (by omega) (by omega)), s2 _ c2]
      exact ⟨_, _, rfl, fun _ => rfl, fun _ => rfl⟩
    · rw [if_pos ((nI_le' (by omega) (by omega)).mpr (by omega))]
      exact ⟨_, _, rfl, fun _ => rfl, fun h => absurd h c2⟩
  · rw [if_pos ((nI_le' (by omega) (by omega)).mpr (by omega)), if_pos ((nI_le' (by omega) (by omega)).mpr (by omega))]
    exact ⟨_, _, rfl, fun h => absurd h c1, fun h => absurd h (by omega)⟩
end
