/-! THE MACHINE: run() and step() of both -/
def kMC (τ u : zSt) : Prop := (∀ o k, ¬ (o = 7 ∧ 3 ≤ k) → ¬ (o = 6 ∧ (k = 3 ∨ k = 4)) → zI u o k = zI τ o k) ∧ (∀ o k, zL u o k = zL τ o k) ∧ (∀ o k, zR u o k = zR τ o k) ∧ (∀ a i, a ≠ 26 → a ≠ 25 → zA u a i = zA τ a i) ∧ (∀ a i, zB u a i = zB τ a i)
def kMR (τ u : zSt) : Prop := (∀ j, ¬ (72 ≤ j ∧ j ≤ 76) → j ≠ 12 → j ≠ 14 → zI u 0 j = zI τ 0 j) ∧ (∀ a i, a ≠ 3 → a ≠ 5 → zA u a i = zA τ a i) ∧ (∀ a i, zB u a i = zB τ a i)
theorem kMC_refl {τ : zSt} : kMC τ τ := ⟨fun _ _ _ _ => rfl, fun _ _ => rfl, fun _ _ => rfl, fun _ _ _ _ => rfl, fun _ _ => rfl⟩
theorem kMR_refl {τ : zSt} : kMR τ τ := ⟨fun _ _ _ _ => rfl, fun _ _ _ _ => rfl, fun _ _ => rfl⟩
theorem kMC_trans {τ u v : zSt} (h : kMC τ u) (h2 : kMC u v) : kMC τ v := ⟨fun o k a b => (h2.1 o k a b).trans (h.1 o k a b), fun o k => (h2.2.1 o k).trans (h.2.1 o k), fun o k => (h2.2.2.1 o k).trans (h.2.2.1 o k), fun a i c d => (h2.2.2.2.1 a i c d).trans (h.2.2.2.1 a i c d), fun a i => (h2.2.2.2.2 a i).trans (h.2.2.2.2 a i)⟩
theorem kMR_trans {τ u v : zSt} (h : kMR τ u) (h2 : kMR u v) : kMR τ v := ⟨fun o a b c => (h2.1 o a b c).trans (h.1 o a b c), fun a i c d => (h2.2.1 a i c d).trans (h.2.1 a i c d), fun a i => (h2.2.2 a i).trans (h.2.2 a i)⟩
theorem gMC_k {τ u : zSt} {v : Int32} (h : gMC τ u) : kMC τ (zsI u 7 7 v) := ⟨fun o k a b => (by rw [zI_I, if_neg (by omega)]; exact h.1 o k (by omega) b), h.2.1, h.2.2.1, h.2.2.2.1, h.2.2.2.2⟩
theorem gMR_k {τ u : zSt} {v : Int32} (h : gMR (zsI τ 0 76 v) u) : kMR τ u := ⟨fun j a b c => (h.1 j (by omega) b c).trans (by rw [zI_I, if_neg (by omega)]), h.2.1, h.2.2⟩
/-- what stays while a program is kept -/
def ME (ln : Nat → Nat) (mc io c sz : Nat) (C : Nat → Int32) (P : yP) (m : Nat) (σ τ : zSt) : Prop := (ln 24 = io ∧ ln 25 = io ∧ ln 26 = mc ∧ mc ≤ 4096 ∧ io ≤ 4096) ∧ zI τ 0 10 = nI io ∧ CDc ln c sz C σ ∧ CDr sz C τ ∧ zI τ 0 8 = nI mc ∧ zI τ 0 29 = nI P.2.1 ∧ pK P ∧ P.2.2.1 = sz ∧ cw C 0 (prL P (nI (szN P m)) P.1.2.2.2.2) ∧ (∀ i, sz ≤ i → C i = -99) ∧ isF P m ∧ npF P m = 0 ∧ zI τ 0 71 ≠ 0
/-- the machines go on -/
def MGo (mc : Nat) (P : yP) (σ τ : zSt) : Prop := ((P.2.1 ≤ mc ∧ TAt σ τ ∧ ∃ mem pc sp fp, MV mc mem pc sp fp σ ∧ MW mc mem pc sp fp τ ∧ sp ≤ mc ∧ MSt P mem pc sp fp) ∨ (mc < P.2.1 ∧ zI σ 7 7 = 0)) ∧ (zI σ 7 7 = 0 → zI σ 7 4 = nI P.2.1)
/-- the machines of both -/
def MR (mc io : Nat) (P : yP) (σ τ : zSt) : Prop := TPr io σ τ ∧ zI σ 7 6 = zI τ 0 75 ∧ (zI τ 0 75 = 0 → MGo mc P σ τ) ∧ ((zI τ 0 76 = 0 ∧ zI σ 7 7 = 0 ∧ zI τ 0 75 = 0) ∨ (zI τ 0 76 = 1 ∧ zI σ 7 7 = 1))
section
variable {ln : Nat → Nat} {N M mc c sz io m : Nat} {C : Nat → Int32} {P : yP} {σ τ : zSt}
theorem ME_k {σ' τ' : zSt} (f1 : kMC σ σ') (f2 : kMR τ τ') (h : ME ln mc io c sz C P m σ τ) : ME ln mc io c sz C P m σ' τ' := by
  obtain ⟨h1, h2, h3, h4, h5, h6, h7, h8, h9, h10, h11, h12, h13⟩ := h
  have hc := h3.1
  refine ⟨h1, (f2.1 _ (by omega) (by omega) (by omega)).trans h2, ⟨h3.1, (f1.2.2.1 _ _).trans h3.2.1, (f1.1 _ _ (by omega) (by omega)).trans h3.2.2.1, fun i hi => (f1.2.2.2.1 _ _ (by omega) (by omega)).trans (h3.2.2.2.1 i hi), h3.2.2.2.2⟩, ⟨(f2.1 _ (by omega) (by omega) (by omega)).trans h4.1, fun i hi => (f2.2.1 _ _ (by omega) (by omega)).trans (h4.2.1 i hi), h4.2.2⟩, (f2.1 _ (by omega) (by omega) (by omega)).trans h5, (f2.1 _ (by omega) (by omega) (by omega)).trans h6, h7, h8, h9, h10, h11, h12, by rw [f2.1 71 (by omega) (by omega) (by omega)]; exact h13⟩
/-- one more turn of both loops -/
theorem iterM {a : Int32} {k f : Nat} (hN : 5000 ≤ N) (hE : ME ln mc io c sz C P m σ τ) (hR : MR mc io P σ τ) (h75 : zI τ 0 75 = 0) (hk : ¬ a ≤ nI k) : ∃ σ' τ', fX3_goOn_b2 ln N M (f + 1) a (nI k) σ = fX3_goOn_b2 ln N M f a (nI (k + 1)) σ' ∧ fX12_step N τ = some (zI τ' 0 75, τ') ∧ MR mc io P σ' τ' ∧ kMC σ σ' ∧ kMR τ τ' ∧ zI σ' 7 7 = 1 := by
  obtain ⟨⟨l1, l2, l3, l4, l5⟩, h10, hC, hD, h8, h29, hp, hsz, hcw, h99, hm, hm0, h71⟩ := hE
  obtain ⟨r1, r2, r3, r4⟩ := hR
  obtain ⟨go, g4⟩ := r3 h75
  have h76 : zI τ 0 76 ≠ 2 := by
    rcases r4 with e | e
    · rw [e.1]; decide
    · rw [e.1]; decide
  have hstep : ∀ τ', fX12_act N (zsI τ 0 76 1) = some ((), τ') → fX12_step N τ = some (zI τ' 0 75, τ') := by
    intro τ' h
    unfold fX12_step
    rw [if_neg h71, if_neg h76, bnd_e, show zI (zsI τ 0 76 1) 0 75 = 0 by rw [zI_I, if_neg (by omega)]; exact h75, if_pos rfl, h, obd_s]
  rw [fX3_goOn_b2, if_neg hk, r2, h75, if_pos rfl]
  unfold fX3_goOn_b41 fX3_goOn_b45
  rcases go with ⟨q1, q2, mem, pc, sp, fp, hV, hW, hs, hM⟩ | ⟨q1, q2⟩
  · have hE2 : MEN ln mc c sz C P σ (zsI τ 0 76 1) := ⟨l3, l4, hC, ⟨by rw [zI_I, if_neg (by omega)]; exact hD.1, hD.2⟩, by rw [zI_I, if_neg (by omega)]; exact h8, by rw [zI_I, if_neg (by omega)]; exact h29, q1, hp, hsz⟩
    have hW2 : MW mc mem pc sp fp (zsI τ 0 76 1) := ⟨by rw [zI_I, if_neg (by omega)]; exact hW.1, by rw [zI_I, if_neg (by omega)]; exact hW.2.1, by rw [zI_I, if_neg (by omega)]; exact hW.2.2.1, hW.2.2.2.1, by rw [zI_I, if_neg (by omega)]; exact hW.2.2.2.2⟩
    have hT2 : TPr io σ (zsI τ 0 76 1) := by
      obtain ⟨i, o, t1, t2, t3, t4, t5, t6, t7, t8⟩ := r1
      exact ⟨i, o, t1, by rw [zI_I, if_neg (by omega)]; exact t2, t3, t4, by rw [zI_I, if_neg (by omega)]; exact t5, t6, t7, t8⟩
    have hA2 : TAt σ (zsI τ 0 76 1) := by
      obtain ⟨j, i, t1, t2, t3, t4⟩ := q2
      exact ⟨j, i, t1, by rw [zI_I, if_neg (by omega)]; exact t2, t3, t4⟩
    obtain ⟨σ', τ', x1, x2, f1, f2, x3, x4, x5⟩ := stepM (N := N) (M := M) hN l1 l2 l5 (by rw [zI_I, if_neg (by omega)]; exact h10) hT2 hA2 hE2 hcw h99 hm hm0 rfl hV hW2 hs hM
    have hcl : (if zI σ 7 7 = 0 then (if zI σ 7 4 ≤ nI (ln 26) then obd (fX3_execute ln N M σ) (fun _ σ3 => bnd (zsI σ3 7 7 (1 : Int32)) (fun σ4 => bnd (nI k + (1 : Int32)) (fun x5 => fX3_goOn_b2 ln N M f a x5 σ4))) else bnd (zsI σ 7 6 (4 : Int32)) (fun σ6 => bnd (zsI σ6 7 7 (1 : Int32)) (fun σ4 => bnd (nI k + (1 : Int32)) (fun x5 => fX3_goOn_b2 ln N M f a x5 σ4)))) else obd (fX3_execute ln N M σ) (fun _ σ3 => bnd (zsI σ3 7 7 (1 : Int32)) (fun σ4 => bnd (nI k + (1 : Int32)) (fun x5 => fX3_goOn_b2 ln N M f a x5 σ4)))) = fX3_goOn_b2 ln N M f a (nI (k + 1)) (zsI σ' 7 7 1) := by
      by_cases c7 : zI σ 7 7 = 0
      · rw [if_pos c7, l3, hV.2.1, if_pos ((nI_le' (by omega) (by omega)).mpr hs), x1, obd_s, bnd_e, show nI k + (1 : Int32) = nI (k + 1) from nI_add _ 1, bnd_e]
      · rw [if_neg c7, x1, obd_s, bnd_e, show nI k + (1 : Int32) = nI (k + 1) from nI_add _ 1, bnd_e]
    refine ⟨zsI σ' 7 7 1, τ', hcl, hstep τ' x2, ⟨?_, ?_, fun e => ⟨Or.inl ⟨q1, ?_, ?_⟩, fun w => ?_⟩, Or.inr ⟨?_, by rw [zI_I, if_pos ⟨rfl, rfl⟩]⟩⟩, gMC_k f1, gMR_k f2, by rw [zI_I, if_pos ⟨rfl, rfl⟩]⟩
    · obtain ⟨i, o, t1, t2, t3, t4, t5, t6, t7, t8⟩ := x3
      exact ⟨i, o, by rw [zI_I, if_neg (by omega)]; exact t1, t2, t3, by rw [zI_I, if_neg (by omega)]; exact t4, t5, t6, t7, t8⟩
    · rw [zI_I, if_neg (by omega)]; exact x4
    · obtain ⟨j, i, t1, t2, t3, t4⟩ := (x5 e).1
      exact ⟨j, i, by rw [zI_I, if_neg (by omega)]; exact t1, t2, by rw [zI_I, if_neg (by omega)]; exact t3, t4⟩
    · obtain ⟨mem', pc', sp', fp', v1, v2, v3, v4⟩ := (x5 e).2
      exact ⟨mem', pc', sp', fp', ⟨by rw [zI_I, if_neg (by omega)]; exact v1.1, by rw [zI_I, if_neg (by omega)]; exact v1.2.1, by rw [zI_I, if_neg (by omega)]; exact v1.2.2.1, v1.2.2.2.1, by rw [zI_I, if_neg (by omega)]; exact v1.2.2.2.2⟩, v2, v3, v4⟩
    · rw [zI_I, if_pos ⟨rfl, rfl⟩] at w; exact absurd w (by decide)
    · rw [f2.1 76 (by omega) (by omega) (by omega), zI_I, if_pos ⟨rfl, rfl⟩]
  · have hb := hp.2.2.2
    rw [if_pos q2, g4 q2, l3, if_neg (fun w => by rw [nI_le' (by omega) (by omega)] at w; omega), bnd_e, bnd_e, show nI k + (1 : Int32) = nI (k + 1) from nI_add _ 1, bnd_e]
    have ha : fX12_act N (zsI τ 0 76 1) = some ((), zsI (zsI τ 0 76 1) 0 75 4) := by
      unfold fX12_act
      rw [show zI (zsI τ 0 76 1) 0 29 = nI P.2.1 by rw [zI_I, if_neg (by omega)]; exact h29, show zI (zsI τ 0 76 1) 0 8 = nI mc by rw [zI_I, if_neg (by omega)]; exact h8, if_neg (fun w => by rw [nI_le' (by omega) (by omega)] at w; omega), bnd_e]
    have e75 : zI (zsI (zsI τ 0 76 1) 0 75 4) 0 75 = 4 := by rw [zI_I, if_pos ⟨rfl, rfl⟩]
    refine ⟨_, _, rfl, hstep _ ha, ⟨?_, ?_, fun e => absurd (e75.symm.trans e) (by decide), Or.inr ⟨?_, by rw [zI_I, if_pos ⟨rfl, rfl⟩]⟩⟩, ⟨fun o j a b => ?_, fun _ _ => rfl, fun _ _ => rfl, fun _ _ _ _ => rfl, fun _ _ => rfl⟩, ⟨fun j a b c => ?_, fun _ _ _ _ => rfl, fun _ _ => rfl⟩, by rw [zI_I, if_pos ⟨rfl, rfl⟩]⟩
    · obtain ⟨i, o, t1, t2, t3, t4, t5, t6, t7, t8⟩ := r1
      exact ⟨i, o, by rw [zI_I, if_neg (by omega), zI_I, if_neg (by omega)]; exact t1, by rw [zI_I, if_neg (by omega), zI_I, if_neg (by omega)]; exact t2, t3, by rw [zI_I, if_neg (by omega), zI_I, if_neg (by omega)]; exact t4, by rw [zI_I, if_neg (by omega), zI_I, if_neg (by omega)]; exact t5, t6, t7, t8⟩
    · rw [e75, zI_I, if_neg (by omega), zI_I, if_pos ⟨rfl, rfl⟩]
    · rw [zI_I, if_neg (by omega), zI_I, if_pos ⟨rfl, rfl⟩]
    · rw [zI_I, if_neg (by omega), zI_I, if_neg (by omega)]
    · rw [zI_I, if_neg (by omega), zI_I, if_neg (by omega)]
theorem loopM {a : Int32} (hN : 5000 ≤ N) : ∀ (r k f f' : Nat) (σ τ : zSt), a.toInt ≤ k + r → k + r < 2 ^ 31 → r < f → r < f' → ME ln mc io c sz C P m σ τ → MR mc io P σ τ → ∃ σ' τ', fX3_goOn_b2 ln N M f a (nI k) σ = some (zI τ' 0 75, σ') ∧ fX12_run_b22 N f' a (nI k) τ = some (zI τ' 0 75, τ') ∧ MR mc io P σ' τ' ∧ kMC σ σ' ∧ kMR τ τ' ∧ (zI σ 7 7 = 1 → zI σ' 7 7 = 1) := by
  intro r
  induction r with
  | zero =>
    intro k f f' σ τ ha hk hf hf' hE hR
    obtain ⟨f, rfl⟩ : ∃ g, f = g + 1 := ⟨f - 1, by omega⟩
    obtain ⟨f', rfl⟩ : ∃ g, f' = g + 1 := ⟨f' - 1, by omega⟩
    have h1 : a ≤ nI k := by rw [Int32.le_iff_toInt_le, nI_toInt (by omega)]; omega
    rw [fX3_goOn_b2, fX12_run_b22, if_pos h1, if_pos h1, hR.2.1]
    exact ⟨σ, τ, rfl, rfl, hR, kMC_refl, kMR_refl, fun h => h⟩
  | succ r ih =>
    intro k f f' σ τ ha hk hf hf' hE hR
    obtain ⟨f, rfl⟩ : ∃ g, f = g + 1 := ⟨f - 1, by omega⟩
    obtain ⟨f', rfl⟩ : ∃ g, f' = g + 1 := ⟨f' - 1, by omega⟩
    by_cases h1 : a ≤ nI k
    · rw [fX3_goOn_b2, fX12_run_b22, if_pos h1, if_pos h1, hR.2.1]
      exact ⟨σ, τ, rfl, rfl, hR, kMC_refl, kMR_refl, fun h => h⟩
    · by_cases h75 : zI τ 0 75 = 0
      · obtain ⟨σ1, τ1, x1, x2, x3, x4, x5, x6⟩ := iterM (N := N) (M := M) (f := f) hN hE hR h75 h1
        obtain ⟨σ2, τ2, y1, y2, y3, y4, y5, y6⟩ := ih (k + 1) f f' σ1 τ1 (by omega) (by omega) (by omega) (by omega) (ME_k x4 x5 hE) x3
        refine ⟨σ2, τ2, x1.trans y1, ?_, y3, kMC_trans x4 y4, kMR_trans x5 y5, fun _ => y6 x6⟩
        rw [fX12_run_b22, if_neg h1, if_pos h75, x2, obd_s, show nI k + (1 : Int32) = nI (k + 1) from nI_add _ 1, bnd_e]
        exact y2
      · rw [fX3_goOn_b2, fX12_run_b22, if_neg h1, if_neg h1, hR.2.1, if_neg h75, if_neg h75]
        exact ⟨σ, τ, rfl, rfl, hR, kMC_refl, kMR_refl, fun h => h⟩
theorem runM {a : Int32} (hN : 2 ^ 31 ≤ N) (hE : ME ln mc io c sz C P m σ τ) (hR : MR mc io P σ τ) : ∃ v σ' τ', fX3_goOn ln N M a σ = some (v, σ') ∧ fX12_run N a τ = some (v, τ') ∧ MR mc io P σ' τ' ∧ kMC σ σ' ∧ kMR τ τ' ∧ (zI σ 7 7 = 1 → zI σ' 7 7 = 1) := by
  unfold fX3_goOn fX12_run
  have h71 := hE.2.2.2.2.2.2.2.2.2.2.2.2
  have h76 : zI τ 0 76 ≠ 2 := by
    rcases hR.2.2.2 with e | e
    · rw [e.1]; decide
    · rw [e.1]; decide
  rw [bnd_e, if_neg h71, if_neg h76, bnd_e, show (0 : Int32) = nI 0 from rfl]
  have hb := Int32.toInt_lt a
  obtain ⟨σ', τ', y1, y2, y3, y4, y5⟩ := loopM (N := N) (M := M) (a := a) (by omega) (2 ^ 31 - 1) 0 N N σ τ (by omega) (by omega) (by omega) (by omega) hE hR
  exact ⟨_, σ', τ', y1, y2, y3, y4, y5⟩
theorem stepR (hN : 2 ^ 31 ≤ N) (hE : ME ln mc io c sz C P m σ τ) (hR : MR mc io P σ τ) : ∃ v σ' τ', fX3_goOn ln N M 1 σ = some (v, σ') ∧ fX12_step N τ = some (v, τ') ∧ MR mc io P σ' τ' ∧ kMC σ σ' ∧ kMR τ τ' ∧ (zI σ 7 7 = 1 → zI σ' 7 7 = 1) := by
  unfold fX3_goOn
  rw [bnd_e, show (0 : Int32) = nI 0 from rfl]
  obtain ⟨f, rfl⟩ : ∃ g, N = g + 1 + 1 := ⟨N - 2, by omega⟩
  have h71 := hE.2.2.2.2.2.2.2.2.2.2.2.2
  by_cases h75 : zI τ 0 75 = 0
  · obtain ⟨σ1, τ1, x1, x2, x3, x4, x5, x6⟩ := iterM (N := f + 1 + 1) (M := M) (f := f + 1) (a := 1) (k := 0) (by omega) hE hR h75 (by decide)
    refine ⟨_, σ1, τ1, x1.trans ?_, x2, x3, x4, x5, fun _ => x6⟩
    rw [fX3_goOn_b2, if_pos (by decide), x3.2.1]
  · have h76 : zI τ 0 76 = 1 ∧ zI σ 7 7 = 1 := by
      rcases hR.2.2.2 with e | e
      · exact absurd e.2.2 h75
      · exact e
    have same : ∀ k, zI (zsI τ 0 76 1) 0 k = zI τ 0 k := fun k => by
      rw [zI_I]
      by_cases e : k = 76
      · rw [if_pos ⟨rfl, e⟩, e, h76.1]
      · rw [if_neg (by omega)]
    unfold fX12_step
    rw [fX3_goOn_b2, if_neg (by decide), hR.2.1, if_neg h75, if_neg h71, if_neg (by rw [h76.1]; decide), bnd_e, same, if_neg h75]
    refine ⟨_, σ, zsI τ 0 76 1, rfl, rfl, ⟨?_, by rw [same]; exact hR.2.1, fun e => absurd (by rw [same] at e; exact e) h75, Or.inr ⟨by rw [same]; exact h76.1, h76.2⟩⟩, kMC_refl, ⟨fun j _ _ _ => same j, fun _ _ _ _ => rfl, fun _ _ => rfl⟩, fun h => h⟩
    obtain ⟨i, o, t1, t2, t3, t4, t5, t6, t7, t8⟩ := hR.1
    exact ⟨i, o, t1, by rw [same]; exact t2, t3, t4, by rw [same]; exact t5, t6, t7, t8⟩
end
