/-! THE REFERENCE MAKES CODE: make() -/
/-- facts of a program that has been read -/
def pFin (P : yP) (nd : Nat) : Prop := P.1.2.2.2.2 ≤ 1400 ∧ nst P P.1.2.2.2.2 ≤ nd ∧ (∀ g, g < P.1.2.2.2.2 → P.1.2.1 g = 2 → ∃ m : Nat, m ≤ 8 ∧ P.1.2.2.2.1 g = nI m ∧ wf (gC P.1 (g + 1)) P.2.1 m (P.2.2.2.2 g) (P.2.2.2.1 g) 1 0)
theorem make28 {N : Nat} {P : yP} {v : Nat} (hN : 12000 ≤ N) (hF : pFin P 1026) (hm : lkN P.1.1 yMain P.1.2.2.2.2 = some v) (hv2 : P.1.2.1 v = 2) : ∀ (d f n : Nat) (τ : zSt), f + d = P.1.2.2.2.2 → d < n → PM P τ → MI P f τ →
    ∃ z, fX12_make_b28 N n (nI f) τ = some ((), z) ∧ fK τ z ∧ zI z 0 61 = nI (szN P P.1.2.2.2.2) ∧ cd z 0 (prL P (nI (szN P v)) P.1.2.2.2.2) := by
  obtain ⟨hG, hnd, hfun⟩ := hF
  have hc1 : ∀ g, g < P.1.2.2.2.2 → P.1.2.1 g = 2 → 1 ≤ cN (P.2.2.2.1 g) := by
    intro g hg hk
    obtain ⟨m, _, _, hw⟩ := hfun g hg hk
    obtain ⟨a, b, c, d, e, f, h⟩ := wf_isN hw (Or.inr rfl)
    rw [h, cN_N]; omega
  have hsz : szN P P.1.2.2.2.2 ≤ 20524 := by have := szN_le P.1.2.2.2.2 hc1; omega
  intro d
  induction d with
  | zero =>
    intro f n τ hf hn hM hI
    obtain ⟨n, rfl⟩ : ∃ g, n = g + 1 := ⟨n - 1, by omega⟩
    have ef : f = P.1.2.2.2.2 := by omega
    subst ef
    have hvl : v < P.1.2.2.2.2 := (lkN_lt hm).1
    refine ⟨zsA τ 34 1 (nI (szN P v)), ?_, ⟨fun j _ _ _ => rfl, fun j => rfl, fun a i => rfl, fun a i q => by rw [zA_A, if_neg (by omega)]⟩, hI.1, ?_⟩
    · unfold fX12_make_b28 fX12_named
      rw [hM.1, if_pos (Int32.le_refl _), bnd_e, namR hG (fun j hj => (hM.2.1 j hj).1) _ _ (Nat.le_refl _) (by omega), obd_s, show (1835100526 : Int64) = yMain from rfl, hm]
      show (if nI v < 0 ∨ 1400 ≤ (nI v).toNatClampNeg then none else _) = _
      rw [nI_clamp (by omega), if_neg (ixN (show v < 1400 by omega) (by omega)), if_neg (by decide), bnd_e]
      rw [hI.2.2 v hvl hv2]
      rfl
    · have h := hI.2.1
      unfold prL at h ⊢
      intro j w hj
      by_cases e : j = 1
      · subst e
        cases hj
        rw [Nat.zero_add, zA_A, if_pos ⟨rfl, rfl⟩]
      · rw [Nat.zero_add, zA_A, if_neg (by omega)]
        have h2 := h j w (by
          by_cases e4 : j < 4
          · have : j = 0 ∨ j = 2 ∨ j = 3 := by omega
            rcases this with rfl | rfl | rfl <;> exact hj
          · rw [List.getElem?_append_right (by simp only [List.length_cons, List.length_nil]; omega)] at hj ⊢
            exact hj)
        rw [Nat.zero_add] at h2
        exact h2
  | succ d ih =>
    intro f n τ hf hn hM hI
    obtain ⟨n, rfl⟩ : ∃ g, n = g + 1 := ⟨n - 1, by omega⟩
    have hfl : f < P.1.2.2.2.2 := by omega
    rw [fX12_make_b28, hM.1, if_neg (show ¬ nI P.1.2.2.2.2 ≤ nI f from fun q => by rw [nI_le' (by omega) (by omega)] at q; omega), nI_clamp (by omega), if_neg (ixN (show f < 1400 by omega) (by omega)), (hM.2.1 f hfl).2.1]
    have hb113 : ∀ z, fX12_make_b113 N (fX12_make_b28 N n) (nI f) z = fX12_make_b28 N n (nI (f + 1)) z := fun z => by
      unfold fX12_make_b113
      rw [bnd_e, nI_1]
    by_cases hk : P.1.2.1 f = 2
    · obtain ⟨m, _, _, hw⟩ := hfun f hfl hk
      have hcn : cN (P.2.2.2.1 f) ≤ 1900 := by
        have h1 := nst_mono (P := P) (show f + 1 ≤ P.1.2.2.2.2 by omega)
        rw [nst_s hk] at h1
        omega
      have hszf : szN P (f + 1) ≤ 29000 := by have := szN_mono (P := P) (show f + 1 ≤ P.1.2.2.2.2 by omega); omega
      rw [if_pos hk, if_neg (ixN (show f < 1400 by omega) (by omega)), bnd_e, hI.1]
      obtain ⟨z, z1, z2, z3⟩ := makeF (fX12_make_b28 N n) hN hG hM hI hfl hk hszf hcn hw
      rw [z1, hb113]
      obtain ⟨y, y1, y2, y3⟩ := ih (f + 1) n z (by omega) (by omega) (PM_fK z2 hM) z3
      exact ⟨y, y1, fK_trans z2 y2, y3⟩
    · rw [if_neg hk, hb113]
      have hs1 : szN P (f + 1) = szN P f := by
        show szN P f + (if P.1.2.1 f = 2 then 6 + (gl (P.2.2.2.1 f)).2 else 0) = _
        rw [if_neg hk]; rfl
      have e1 : prL P 0 (f + 1) = prL P 0 f := by
        unfold prL
        show _ ++ (prF P f ++ (if P.1.2.1 f = 2 then fcd P f else [])) = _
        rw [if_neg hk, List.append_nil]
      refine ih (f + 1) n τ (by omega) (by omega) hM ⟨by rw [hs1]; exact hI.1, by rw [e1]; exact hI.2.1, fun g hg hg2 => ?_⟩
      by_cases e : g = f
      · rw [e] at hg2; exact absurd hg2 hk
      · exact hI.2.2 g (by omega) hg2
theorem makeR {N : Nat} {P : yP} {v : Nat} {τ : zSt} (hN : 12000 ≤ N) (hF : pFin P 1026) (hm : lkN P.1.1 yMain P.1.2.2.2.2 = some v) (hv2 : P.1.2.1 v = 2) (hM : PM P τ) :
    ∃ z, fX12_make N τ = some ((), z) ∧ fK τ z ∧ zI z 0 61 = nI (szN P P.1.2.2.2.2) ∧ cd z 0 (prL P (nI (szN P v)) P.1.2.2.2.2) := by
  unfold fX12_make
  rw [bnd_e, putR (p := 0) (by rw [zI_I, if_pos ⟨rfl, rfl⟩]; rfl) (by omega), obd_s, putR pt_61 (by omega), obd_s, putR pt_61 (by omega), obd_s, putR pt_61 (by omega), obd_s, bnd_e]
  have hK : fK τ (wlS (zsI τ 0 61 0) 0 [32, 0, 0, 0]) := by
    refine fK_trans (u := zsI τ 0 61 0) ⟨fun j _ c _ => by rw [zI_I, if_neg (by omega)], fun j => rfl, fun a i => rfl, fun a i _ => zA_I ..⟩ (fM_K (fM_pl (lo := 0) (hi := 0) (p := 0) (b := 0) [32, 0, 0, 0] 0 _ fM_refl (Nat.le_refl _)))
  have hcd := cd_pl [32, 0, 0, 0] 0 (zsI τ 0 61 0)
  have h61 : zI (wlS (zsI τ 0 61 0) 0 [32, 0, 0, 0]) 0 61 = nI 4 := pt_61
  show ∃ z, fX12_make_b28 N N (nI 0) (wlS (zsI τ 0 61 0) 0 [32, 0, 0, 0]) = _ ∧ _
  revert hK hcd h61
  generalize wlS (zsI τ 0 61 0) 0 [32, 0, 0, 0] = s
  intro hK hcd h61
  obtain ⟨z, z1, z2, z3⟩ := make28 hN hF hm hv2 P.1.2.2.2.2 0 N s (by omega) (by have := hF.1; omega) (PM_fK hK hM) ⟨h61, by unfold prL prF; rw [List.append_nil]; exact hcd, fun g hg => absurd hg (Nat.not_lt_zero _)⟩
  exact ⟨z, z1, fK_trans hK z2, z3⟩
