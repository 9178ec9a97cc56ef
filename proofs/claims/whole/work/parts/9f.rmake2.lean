/-! THE REFERENCE MAKES CODE: all FUNCTIONS -/
theorem gl_le : ∀ t : fT, (gl t).2 ≤ 14 * cN t := by
  apply ff_ind
  · intro t hz
    rw [gl_isZ hz, cN_isZ hz]
    exact Nat.le_refl _
  · intro k v w A B C hA hB hC
    rw [gl_N, cN_N]
    unfold glN
    show (if k = 1 ∨ k = 2 ∨ k = 3 then 2 else if k = 4 then (gl A).2 + 3 else if k = 5 then (gl A).2 + 1 else if k = 6 then (gl A).2 + ((gl B).2 + 1)
      else if k = 7 then (gl A).2 + (2 + ((gl B).2 + 8)) else if k = 8 then (gl A).2 + (6 + ((gl B).2 + 8)) else if k = 9 then (gl A).2 + 3 else if k = 10 then 1
      else if k = 20 then (gl A).2 else if k = 21 then (if (gl A).1 = true then (gl A).2 else 2) + 2
      else if k = 22 then (if (gl C).1 = true then (gl A).2 + (2 + ((gl B).2 + (2 + (gl C).2))) else (gl A).2 + (2 + (gl B).2))
      else if k = 23 then (gl A).2 + (2 + ((gl B).2 + 2)) else if k = 24 then (gl A).2 + 2 else if k = 25 then (gl A).2 + 1 else if k = 26 ∨ k = 27 then (gl A).2 + 2
      else if k = 28 then (gl A).2 + ((gl B).2 + 3) else if k = 29 then (gl A).2 + 1 else 0) ≤ _
    have hc : (if (gl A).1 = true then (gl A).2 else 2) ≤ (gl A).2 + 2 := by split <;> omega
    have hd : (if (gl C).1 = true then (gl A).2 + (2 + ((gl B).2 + (2 + (gl C).2))) else (gl A).2 + (2 + (gl B).2)) ≤ (gl A).2 + (2 + ((gl B).2 + (2 + (gl C).2))) := by split <;> omega
    generalize (if (gl A).1 = true then (gl A).2 else 2) = y1 at hc
    generalize (if (gl C).1 = true then (gl A).2 + (2 + ((gl B).2 + (2 + (gl C).2))) else (gl A).2 + (2 + (gl B).2)) = y2 at hd
    generalize (gl A).2 = a at *
    generalize (gl B).2 = b at *
    generalize (gl C).2 = c at *
    by_cases k1 : k = 1 ∨ k = 2 ∨ k = 3
    · rw [if_pos k1]; omega
    rw [if_neg k1]
    by_cases k4 : k = 4
    · rw [if_pos k4]; omega
    rw [if_neg k4]
    by_cases k5 : k = 5
    · rw [if_pos k5]; omega
    rw [if_neg k5]
    by_cases k6 : k = 6
    · rw [if_pos k6]; omega
    rw [if_neg k6]
    by_cases k7 : k = 7
    · rw [if_pos k7]; omega
    rw [if_neg k7]
    by_cases k8 : k = 8
    · rw [if_pos k8]; omega
    rw [if_neg k8]
    by_cases k9 : k = 9
    · rw [if_pos k9]; omega
    rw [if_neg k9]
    by_cases k10 : k = 10
    · rw [if_pos k10]; omega
    rw [if_neg k10]
    by_cases k20 : k = 20
    · rw [if_pos k20]; omega
    rw [if_neg k20]
    by_cases k21 : k = 21
    · rw [if_pos k21]; omega
    rw [if_neg k21]
    by_cases k22 : k = 22
    · rw [if_pos k22]; omega
    rw [if_neg k22]
    by_cases k23 : k = 23
    · rw [if_pos k23]; omega
    rw [if_neg k23]
    by_cases k24 : k = 24
    · rw [if_pos k24]; omega
    rw [if_neg k24]
    by_cases k25 : k = 25
    · rw [if_pos k25]; omega
    rw [if_neg k25]
    by_cases k26 : k = 26 ∨ k = 27
    · rw [if_pos k26]; omega
    rw [if_neg k26]
    by_cases k28 : k = 28
    · rw [if_pos k28]; omega
    rw [if_neg k28]
    by_cases k29 : k = 29
    · rw [if_pos k29]; omega
    rw [if_neg k29]
    omega
  · intro t r ht hr
    rw [gl_C, cN_C]
    show (gl t).2 + (gl r).2 ≤ _
    omega
/-- the cells of FUNCTION g -/
def fcd (P : yP) (g : Nat) : List Int32 := [37, nI (P.2.2.2.2 g)] ++ ((gn (fun g => nI (szN P g)) (P.1.2.2.2.1 g) (P.2.2.2.1 g)).2 (szN P g + 2) ++ [1, 0, 33, P.1.2.2.2.1 g])
def prF (P : yP) : Nat → List Int32
  | 0 => []
  | g + 1 => prF P g ++ (if P.1.2.1 g = 2 then fcd P g else [])
/-- all cells -/
def prL (P : yP) (v : Int32) (m : Nat) : List Int32 := [32, v, 0, 0] ++ prF P m
theorem fcd_len {P : yP} {g : Nat} : (fcd P g).length = 6 + (gl (P.2.2.2.1 g)).2 := by
  unfold fcd
  rw [List.length_append, List.length_append, (gn_len _ _ _).2]
  show 2 + ((gl (P.2.2.2.1 g)).2 + 4) = _
  omega
theorem prF_len {P : yP} : ∀ m, 4 + (prF P m).length = szN P m := by
  intro m
  induction m with
  | zero => rfl
  | succ m ih =>
    unfold prF szN
    rw [List.length_append, ← ih]
    by_cases e : P.1.2.1 m = 2
    · rw [if_pos e, if_pos e, fcd_len]; omega
    · rw [if_neg e, if_neg e]; rfl
theorem prL_len {P : yP} {v : Int32} {m : Nat} : (prL P v m).length = szN P m := by
  unfold prL
  rw [List.length_append, ← prF_len]
  rfl
theorem szN_le {P : yP} : ∀ m, (∀ g, g < m → P.1.2.1 g = 2 → 1 ≤ cN (P.2.2.2.1 g)) → szN P m ≤ 4 + 20 * nst P m := by
  intro m
  induction m with
  | zero => intro _; exact Nat.le_refl _
  | succ m ih =>
    intro h
    have h1 := ih (fun g hg => h g (by omega))
    have h2 := gl_le (P.2.2.2.1 m)
    show szN P m + (if P.1.2.1 m = 2 then 6 + (gl (P.2.2.2.1 m)).2 else 0) ≤ 4 + 20 * (nst P m + (if P.1.2.1 m = 2 then cN (P.2.2.2.1 m) else 0))
    by_cases e : P.1.2.1 m = 2
    · have h3 := h m (by omega) e
      rw [if_pos e, if_pos e]; omega
    · rw [if_neg e, if_neg e]; omega
theorem szN_mono {P : yP} : ∀ {a b : Nat}, a ≤ b → szN P a ≤ szN P b := by
  intro a b h
  induction b with
  | zero => rw [show a = 0 by omega]; exact Nat.le_refl _
  | succ b ih =>
    by_cases e : a = b + 1
    · rw [e]; exact Nat.le_refl _
    · have h2 := ih (by omega)
      show szN P a ≤ szN P b + (if P.1.2.1 b = 2 then 6 + (gl (P.2.2.2.1 b)).2 else 0)
      exact Nat.le_trans h2 (Nat.le_add_right _ _)
/-- what make() leaves -/
def fK (τ u : zSt) : Prop := (∀ j, j ≠ 35 → j ≠ 61 → j ≠ 63 → zI u 0 j = zI τ 0 j) ∧ (∀ j, zL u 0 j = zL τ 0 j) ∧ (∀ a i, zB u a i = zB τ a i) ∧ (∀ a i, a < 34 ∨ 40 < a → zA u a i = zA τ a i)
theorem fK_trans {τ u v : zSt} (h : fK τ u) (h2 : fK u v) : fK τ v := ⟨fun j a b c => (h2.1 j a b c).trans (h.1 j a b c), fun j => (h2.2.1 j).trans (h.2.1 j), fun a i => (h2.2.2.1 a i).trans (h.2.2.1 a i), fun a i q => (h2.2.2.2 a i q).trans (h.2.2.2 a i q)⟩
theorem fM_K {lo hi p b : Nat} {τ u : zSt} (h : fM lo hi p b τ u) : fK τ u := ⟨fun j _ b c => h.1 j b c, h.2.1, h.2.2.1, fun a i q => h.2.2.2 a i (Or.inl (by omega)) (Or.inl (by omega)) (Or.inl (by omega))⟩
theorem fK_refl {τ : zSt} : fK τ τ := ⟨fun _ _ _ _ => rfl, fun _ => rfl, fun _ _ => rfl, fun _ _ _ => rfl⟩
/-- the program, as make() sees it -/
def PM (P : yP) (τ : zSt) : Prop := zI τ 0 22 = nI P.1.2.2.2.2 ∧ (∀ g, g < P.1.2.2.2.2 → zB τ 7 g = P.1.1 g ∧ zA τ 8 g = P.1.2.1 g ∧ zA τ 10 g = P.1.2.2.2.1 g) ∧ (∀ g, g < P.1.2.2.2.2 → P.1.2.1 g = 2 → rep τ (P.2.2.2.1 g) (nst P g) (nst P g + cN (P.2.2.2.1 g)) (zA τ 11 g) ∧ zA τ 12 g = nI (P.2.2.2.2 g))
theorem PM_fK {P : yP} {τ u : zSt} (h : fK τ u) (hp : PM P τ) : PM P u := by
  obtain ⟨a, b, c⟩ := hp
  refine ⟨(h.1 22 (by omega) (by omega) (by omega)).trans a, fun g hg => ?_, fun g hg hk => ?_⟩
  · rw [h.2.2.1, h.2.2.2 8 g (by omega), h.2.2.2 10 g (by omega)]; exact b g hg
  · obtain ⟨c1, c2⟩ := c g hg hk
    rw [h.2.2.2 11 g (by omega), h.2.2.2 12 g (by omega)]
    exact ⟨rep_frame _ _ _ _ (fun j hj => ⟨hj, fun a _ _ => h.2.2.2 a j (by omega)⟩) c1, c2⟩
/-- the first f names are done -/
def MI (P : yP) (f : Nat) (τ : zSt) : Prop := zI τ 0 61 = nI (szN P f) ∧ cd τ 0 (prL P 0 f) ∧ (∀ g, g < f → P.1.2.1 g = 2 → zA τ 35 g = nI (szN P g))
/-- one FUNCTION -/
theorem makeF {N f : Nat} {P : yP} {τ : zSt} (k28 : Int32 → zSt → Option (Unit × zSt)) (hN : 12000 ≤ N) (hG : P.1.2.2.2.2 ≤ 1400) (hM : PM P τ) (hI : MI P f τ) (hf : f < P.1.2.2.2.2) (hk : P.1.2.1 f = 2) (hsz : szN P (f + 1) ≤ 29000) (hc : cN (P.2.2.2.1 f) ≤ 1900) {gs npN K m : Nat} (hw : wf (gC P.1 (f + 1)) gs npN K (P.2.2.2.1 f) 1 m) :
    ∃ z, obd (fX12_put N 37 (zsA τ 35 f (nI (szN P f)))) (fun _ σ17 => if nI f < 0 ∨ 1400 ≤ f then none else obd (fX12_put N (zA σ17 12 f) σ17) (fun _ σ19 => bnd (zsI σ19 0 35 (nI f)) (fun σ20 => if nI f < 0 ∨ 1400 ≤ f then none else obd (fX12_makeS N (zA σ20 11 f) σ20) (fun _ σ22 => obd (fX12_put N 1 σ22) (fun _ σ24 => obd (fX12_put N 0 σ24) (fun _ σ26 => obd (fX12_put N 33 σ26) (fun _ σ28 => if nI f < 0 ∨ 1400 ≤ f then none else obd (fX12_put N (zA σ28 10 f) σ28) (fun _ σ30 => fX12_make_b113 N k28 (nI f) σ30)))))))) = fX12_make_b113 N k28 (nI f) z ∧ fK τ z ∧ MI P (f + 1) z := by
  have hs1 : szN P (f + 1) = szN P f + (6 + (gl (P.2.2.2.1 f)).2) := by
    show szN P f + (if P.1.2.1 f = 2 then 6 + (gl (P.2.2.2.1 f)).2 else 0) = _
    rw [if_pos hk]
  obtain ⟨i61, icd, i35⟩ := hI
  obtain ⟨m1, m2, m3⟩ := hM
  obtain ⟨r1, r2⟩ := m3 f hf hk
  have ix := ixN (show f < 1400 by omega) (by omega)
  rw [putR (p := szN P f) (by rw [zI_A]; exact i61) (by omega), obd_s, if_neg ix, pt_A (by omega), zA_A, if_neg (by omega), r2, putR pt_61 (by omega), obd_s, bnd_e, if_neg ix]
  -- the state in which the BLOCK is made
  have hK1 : fK τ (zsI (ptS (ptS (zsA τ 35 f (nI (szN P f))) (szN P f) 37) (szN P f + 1) (nI (P.2.2.2.2 f))) 0 35 (nI f)) := by
    unfold ptS
    refine ⟨fun j a b c => ?_, fun j => rfl, fun a i => rfl, fun a i q => ?_⟩
    · rw [zI_I, if_neg (by omega), zI_I, if_neg (by omega), zI_A, zI_I, if_neg (by omega), zI_A, zI_A]
    · rw [zA_I, zA_I, zA_A, if_neg (by omega), zA_I, zA_A, if_neg (by omega), zA_A, if_neg (by omega)]
  have hR1 : RM (gC P.1 (f + 1)) (fun g => nI (szN P g)) (P.1.2.2.2.1 f) (zsI (ptS (ptS (zsA τ 35 f (nI (szN P f))) (szN P f) 37) (szN P f + 1) (nI (P.2.2.2.2 f))) 0 35 (nI f)) (szN P f + 2) (zI τ 0 63).toNatClampNeg ∨ True := Or.inr trivial
  have hcx : cx (gC P.1 (f + 1)) (fun g => nI (szN P g)) (P.1.2.2.2.1 f) (zsI (ptS (ptS (zsA τ 35 f (nI (szN P f))) (szN P f) 37) (szN P f + 1) (nI (P.2.2.2.2 f))) 0 35 (nI f)) := by
    refine ⟨⟨f, by rw [zI_I, if_pos ⟨rfl, rfl⟩], by omega, (hK1.2.2.2 10 f (by omega)).trans (m2 f hf).2.2⟩, by show f + 1 ≤ 1400; omega, fun g hg hg2 => ?_⟩
    have hg3 : g < f + 1 := hg
    by_cases e : g = f
    · rw [e, zA_I, pt_A (by omega), pt_A (by omega), zA_A, if_pos ⟨rfl, rfl⟩]
    · rw [zA_I, pt_A (by omega), pt_A (by omega), zA_A, if_neg (by omega)]
      exact i35 g (by omega) hg2
  have h61 : zI (zsI (ptS (ptS (zsA τ 35 f (nI (szN P f))) (szN P f) 37) (szN P f + 1) (nI (P.2.2.2.2 f))) 0 35 (nI f)) 0 61 = nI (szN P f + 2) := by rw [zI_I, if_neg (by omega)]; exact pt_61
  have hA35 : ∀ g, zA (zsI (ptS (ptS (zsA τ 35 f (nI (szN P f))) (szN P f) 37) (szN P f + 1) (nI (P.2.2.2.2 f))) 0 35 (nI f)) 35 g = if g = f then nI (szN P f) else zA τ 35 g := by
    intro g
    rw [zA_I, pt_A (by omega), pt_A (by omega), zA_A]
    by_cases e : g = f
    · rw [if_pos e, if_pos ⟨rfl, e⟩]
    · rw [if_neg e, if_neg (by omega)]
  have hc37 : cd (zsI (ptS (ptS (zsA τ 35 f (nI (szN P f))) (szN P f) 37) (szN P f + 1) (nI (P.2.2.2.2 f))) 0 35 (nI f)) (szN P f) [37, nI (P.2.2.2.2 f)] := by
    refine cd_cons ?_ (cd_cons ?_ cd_nil)
    · rw [zA_I, pt_A (by omega), pt_34]
    · rw [zA_I, pt_34]
  have hclow : ∀ i, i < szN P f → zA (zsI (ptS (ptS (zsA τ 35 f (nI (szN P f))) (szN P f) 37) (szN P f + 1) (nI (P.2.2.2.2 f))) 0 35 (nI f)) 34 i = zA τ 34 i := fun i hi => by rw [zA_I, pt_A (by omega), pt_A (by omega), zA_A, if_neg (by omega)]
  clear hR1
  revert hK1 hcx h61 hA35 hc37 hclow
  generalize zsI (ptS (ptS (zsA τ 35 f (nI (szN P f))) (szN P f) 37) (szN P f + 1) (nI (P.2.2.2.2 f))) 0 35 (nI f) = s
  intro hK1 hcx h61 hA35 hc37 hclow
  rw [hK1.2.2.2 11 f (by omega)]
  have hrs : rep s (P.2.2.2.1 f) (nst P f) (nst P f + cN (P.2.2.2.1 f)) (zA τ 11 f) := rep_frame _ _ _ _ (fun j hj => ⟨hj, fun a _ _ => hK1.2.2.2 a j (by omega)⟩) r1
  -- the number of tasks before doesn't matter
  have hms : fX12_makeS N (zA τ 11 f) s = fX12_makeS N (zA τ 11 f) (zsI s 0 63 0) := by
    unfold fX12_makeS
    rw [bnd_e, bnd_e, zsI_I]
  rw [hms]
  obtain ⟨u, u1, u2, u3, u4⟩ := makeSR (N := N) (c := 0) (by show f + 1 ≤ 1400; omega) hw (τ := zsI s 0 63 0) (rep_frame _ _ _ _ (fun j hj => ⟨hj, fun a _ _ => zA_I ..⟩) hrs) (⟨cx_fM (fM_63 (lo := 0) (hi := 0) (p := 0) (b := 0) fM_refl) hcx, by rw [zI_I, if_neg (by omega)]; exact h61, by rw [zI_I, if_pos ⟨rfl, rfl⟩]; rfl⟩) (by omega) hc hN
  rw [u1, obd_s, putR u3.2.1 (by omega), obd_s, putR pt_61 (by omega), obd_s, putR pt_61 (by omega), obd_s, if_neg ix]
  have e10 : zA (ptS (ptS (ptS u (szN P f + 2 + (gl (P.2.2.2.1 f)).2) 1) (szN P f + 2 + (gl (P.2.2.2.1 f)).2 + 1) 0) (szN P f + 2 + (gl (P.2.2.2.1 f)).2 + 1 + 1) 33) 10 f = P.1.2.2.2.1 f := by
    rw [pt_A (by omega), pt_A (by omega), pt_A (by omega), u2.2.2.2 10 f (Or.inl (by omega)) (Or.inl (by omega)) (Or.inl (by omega)), zA_I, hK1.2.2.2 10 f (by omega)]
    exact (m2 f hf).2.2
  rw [e10, putR pt_61 (by omega), obd_s]
  have hFz := fM_pl (lo := nst P f) (hi := nst P f + cN (P.2.2.2.1 f)) (p := szN P f + 2) (b := 0) (τ := zsI s 0 63 0) [1, 0, 33, P.1.2.2.2.1 f] (szN P f + 2 + (gl (P.2.2.2.1 f)).2) u u2 (by omega)
  have hRz := RM_pl [1, 0, 33, P.1.2.2.2.1 f] (szN P f + 2 + (gl (P.2.2.2.1 f)).2) u u3
  have hcz := cd_pl [1, 0, 33, P.1.2.2.2.1 f] (szN P f + 2 + (gl (P.2.2.2.1 f)).2) u
  have hlow := fM_pl (lo := 0) (hi := 0) (p := szN P f + 2 + (gl (P.2.2.2.1 f)).2) (b := 0) (τ := u) [1, 0, 33, P.1.2.2.2.1 f] (szN P f + 2 + (gl (P.2.2.2.1 f)).2) u fM_refl (Nat.le_refl _)
  refine ⟨wlS u (szN P f + 2 + (gl (P.2.2.2.1 f)).2) [1, 0, 33, P.1.2.2.2.1 f], rfl, ?_, ?_, ?_, ?_⟩
  · refine fK_trans hK1 (fK_trans ?_ (fM_K hFz))
    exact ⟨fun j _ _ c => by rw [zI_I, if_neg (by omega)], fun j => rfl, fun a i => rfl, fun a i _ => zA_I ..⟩
  · rw [hRz.2.1, hs1]
    show nI (szN P f + 2 + (gl (P.2.2.2.1 f)).2 + 4) = _
    congr 1
    omega
  · have hl34 : ∀ i, i < szN P f + 2 → zA (wlS u (szN P f + 2 + (gl (P.2.2.2.1 f)).2) [1, 0, 33, P.1.2.2.2.1 f]) 34 i = zA s 34 i := fun i hi => by
      rw [hFz.2.2.2 34 i (Or.inr (by omega)) (Or.inl (by omega)) (Or.inl (by omega)), zA_I]
    have e1 : prL P 0 (f + 1) = prL P 0 f ++ fcd P f := by
      unfold prL
      show _ ++ (prF P f ++ (if P.1.2.1 f = 2 then fcd P f else [])) = _
      rw [if_pos hk, List.append_assoc]
    rw [e1]
    refine cd_app (cd_frame (fun i _ h2 => ?_) icd) ?_
    · rw [prL_len] at h2
      rw [hl34 i (by omega)]
      exact hclow i (by omega)
    · rw [prL_len, Nat.zero_add]
      unfold fcd
      refine cd_app (cd_frame (fun i h1 h2 => ?_) hc37) ?_
      · simp only [List.length_cons, List.length_nil] at h2
        exact hl34 i (by omega)
      · show cd _ (szN P f + 2) _
        refine cd_app (cd_frame (fun i h1 h2 => ?_) u4) ?_
        · rw [(gn_len _ _ _).2] at h2
          exact hlow.2.2.2 34 i (Or.inr (by omega)) (Or.inl (by omega)) (Or.inl (by omega))
        · rw [(gn_len _ _ _).2]; exact hcz
  · intro g hg hg2
    have e : zA (wlS u (szN P f + 2 + (gl (P.2.2.2.1 f)).2) [1, 0, 33, P.1.2.2.2.1 f]) 35 g = zA s 35 g := by
      rw [hFz.2.2.2 35 g (Or.inl (by omega)) (Or.inl (by omega)) (Or.inl (by omega)), zA_I]
    rw [e, hA35]
    by_cases e2 : g = f
    · rw [if_pos e2, e2]
    · rw [if_neg e2]; exact i35 g (by omega) hg2
