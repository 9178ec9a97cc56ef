/-! THE REFERENCE'S READER: expression(end), from the outside -/
def SV (x : Nat → Int32) (n tc : Nat) (G : gE) (L : lE) (tk : yTok) (c ns nd : Nat) (τ : zSt) : Prop :=
  rS x n tc G L τ ∧ rT tk τ ∧ zI τ 0 21 = 0 ∧ zI τ 0 36 = nI c ∧ zI τ 0 37 = nI ns ∧ zI τ 0 38 = nI nd
theorem SV_RV {x : Nat → Int32} {n tc : Nat} {G : gE} {L : lE} {tk : yTok} {c ns nd : Nat} {τ : zSt} (h : SV x n tc G L tk c ns nd τ) : RV x n tc G L tk c ns nd 0 (zsI τ 0 54 (0 : Int32)) := by
  obtain ⟨h1, h2, h3, h4, h5, h6⟩ := h
  refine ⟨rS_fE (lo := 0) (w0 := 0) h1 (fE_I fE_refl (by omega)), ?_, ?_, ?_, ?_, ?_, ?_⟩
  · unfold rT; simp only [zI_I, zI_L, zI_R, zI_A, zI_B, zL_I, zL_L, zL_R, zL_A, zL_B, zA_I, zA_L, zA_R, zA_A, zA_B, zB_I, zB_L, zB_R, zB_A, zB_B, reduceIte, Nat.reduceEqDiff, Nat.reduceEqDiff, false_and, and_false, true_and, and_true, ne_eq, not_false_eq_true, not_true_eq_false]; exact h2
  all_goals simp only [zI_I, zI_L, zI_R, zI_A, zI_B, zL_I, zL_L, zL_R, zL_A, zL_B, zA_I, zA_L, zA_R, zA_A, zA_B, zB_I, zB_L, zB_R, zB_A, zB_B, reduceIte, Nat.reduceEqDiff, Nat.reduceEqDiff, false_and, and_false, true_and, and_true, ne_eq, not_false_eq_true, not_true_eq_false]; try assumption
  rfl
theorem RV_SV {x : Nat → Int32} {n tc : Nat} {G : gE} {L : lE} {tk : yTok} {c ns nd w : Nat} {τ : zSt} (h : RV x n tc G L tk c ns nd w τ) : SV x n tc G L tk c ns nd τ := ⟨h.1, h.2.1, h.2.2.1, h.2.2.2.1, h.2.2.2.2.1, h.2.2.2.2.2.1⟩
/-- an E in which something is wrong: told, or its last token will be told by the one who has asked for the E -/
def EE (x : Nat → Int32) (n : Nat) (e cl : Int32) (τ u : zSt) : Prop := FX x n e τ u ∨ (zI u 0 21 = 0 ∧ rD x n 1200 u ∧ fP τ u ∧ e = stE u ∧ sgB u (sgC cl) = false)
def exQ (x : Nat → Int32) (n tc : Nat) (G : gE) (L : lE) (tk : yTok) (ns nd : Nat) (cl : Int32) (τ : zSt) (res : Except Int32 (fT × yTok × Nat)) (r : Int32) (u : zSt) : Prop :=
  (∀ e, res = .error e → e ≠ 0 ∧ EE x n e cl τ u) ∧ (∀ t tk' c', res = .ok (t, tk', c') → ∃ i nd', r = nI i ∧ SV x n tc G L tk' c' ns nd' u ∧ BD n tc tk' c' ns nd' 0 ∧ fE nd 0 τ u ∧ nd ≤ nd' ∧ rep u t nd nd' (nI i) ∧ zA u 21 i = -1 ∧ i < 4200 ∧ rng nd nd' i ∧ yEnds cl tk'.2.2.1 = true ∧ tk.2.1 < tk'.2.1)
theorem exprR {x : Nat → Int32} {n tc : Nat} {G : gE} {L : lE} {N : Nat} {tk : yTok} {c ns nd : Nat} {cl s : Int32} {τ : zSt} (hn : n ≤ 512) (hN : 5000 ≤ N) (hG : G.2.2.2.2 ≤ 1400) (hLn : L.2.2 ≤ 1400) (hcl : cl = 56 ∨ cl = 50 ∨ cl = 54) (hs : s = sgC cl) (hV : SV x n tc G L tk c ns nd τ) (hB : BD n tc tk c ns nd 0) (h0 : yE x n tc G L 42 ns cl tk c ≠ .error 0) :
    wp (fX12_expression N s τ) (exQ x n tc G L tk ns nd cl τ (yE x n tc G L 42 ns cl tk c)) := by
  subst hs
  have hBl := BD_le hB hn
  have hV1 := SV_RV hV
  have hE1 : fE nd 0 τ (zsI τ 0 54 (0 : Int32)) := fE_I fE_refl (by omega)
  unfold fX12_expression
  rw [bnd_e]
  revert hV1 hE1
  generalize zsI τ 0 54 (0 : Int32) = s1
  intro hV1 hE1
  rw [waitsR hV1.2.2.2.2.2.2 (by omega), obd_s]
  have hV2 : RV x n tc G L tk c ns nd (0 + 1) (wtS s1 0 0 (-1) (sgC cl)) := RV_wt hV1
  have hE2 : fE nd 0 τ (wtS s1 0 0 (-1) (sgC cl)) := wtS_E hE1 (Nat.le_refl _)
  have h29 : zA (wtS s1 0 0 (-1) (sgC cl)) 29 0 = 0 := wtS_t.1
  have h31 : zA (wtS s1 0 0 (-1) (sgC cl)) 31 0 = sgC cl := wtS_t.2.2.1
  revert hV2 hE2 h29 h31
  generalize wtS s1 0 0 (-1) (sgC cl) = s2
  intro hV2 hE2 h29 h31
  refine wp_obd ?_
  unfold fX12_works
  rw [bnd_e]
  obtain ⟨b1, b2, b3, b4, b5, b6⟩ := hB
  refine levR hn hN hG hLn 42 ns cl tk c nd 0 N s2 _ hV2 ⟨b1, b2, b3, b4, b5, by omega⟩ (Or.inl ⟨rfl, h29, ?_⟩) (by omega) h0 ?_ ?_
  · rw [h31]
    rcases hcl with rfl | rfl | rfl
    · exact Or.inl ⟨rfl, rfl⟩
    · exact Or.inr (Or.inl ⟨rfl, rfl⟩)
    · exact Or.inr (Or.inr ⟨rfl, rfl⟩)
  · intro t tk' c' i nd' m' u hres hVu hBu hEu hndu hrep h21i hi hri hEnd hpl hm'
    have hu29 : zA u 29 0 = 0 := (hEu.2.1 29 0 (by omega) (by omega)).trans h29
    rw [endsO hVu.2.2.2.2.2.2 (by omega) rfl hu29, if_neg (by decide), if_neg (by decide), if_neg (by decide), obd_s]
    have hpn : tk'.2.1 ≤ n := by have := hBu.1.1; have := hBu.1.2.1; omega
    obtain ⟨m', rfl⟩ : ∃ g, m' = g + 1 := ⟨m' - 1, by omega⟩
    rw [fX12_works_b2, isWellT (by rw [zI_I, if_neg (by omega)]; exact hVu.2.2.1), obd_s, if_neg (by decide), if_pos (show zI (zsI u 0 54 (nI 0)) 0 54 ≤ 0 by rw [zI_I, if_pos ⟨rfl, rfl⟩]; decide)]
    unfold fX12_works_b135
    rw [if_pos (nI_pos' (by omega))]
    refine wp_s (wp_s ⟨fun e he => ?_, fun t2 tk2 c2 h2 => ?_⟩)
    · rw [hres] at he; cases he
    · rw [hres] at h2
      cases h2
      have hEu2 : fE nd 0 s2 u := fE_trans fE_refl hEu (Nat.le_refl _) (by omega)
      refine ⟨i, nd', rfl, RV_SV (RV_54 hVu), ⟨hBu.1, hBu.2.1, hBu.2.2.1, hBu.2.2.2.1, hBu.2.2.2.2.1, by omega⟩, fE_trans hE2 (fE_I hEu2 (by omega)) (Nat.le_refl _) (Nat.le_refl _), hndu, ?_, ?_, hi, hri, hEnd, hpl⟩
      · exact rep_frame _ _ _ _ (fun j hj => ⟨hj, fun a _ _ => zA_I ..⟩) hrep
      · rw [zA_I]; exact h21i
  · intro e r u hres he0 hfo
    refine wp_s ⟨fun e2 he => ?_, fun t2 tk2 c2 h2 => ?_⟩
    · rw [hres] at he
      cases he
      refine ⟨he0, ?_⟩
      rcases hfo with ⟨q1, q2, q3⟩ | ⟨q1, q2, q3, q4, q5, q6⟩
      · exact Or.inl ⟨q1, q2, fP_trans (fE_P hE2) q3⟩
      · exact Or.inr ⟨q2, q3, fP_trans (fE_P hE2) q4, q5, q6⟩
    · rw [hres] at h2; cases h2
/-- what stands behind an E: the sign that ends it -/
theorem EE_takes {x : Nat → Int32} {n N : Nat} {e cl : Int32} {τ u : zSt} (h : EE x n e cl τ u) (he : e ≠ 0) : ∃ z, fX12_takes N (sgC cl) u = some ((), z) ∧ FXb x n 1200 e τ z := by
  rcases h with ⟨q1, q2, q3⟩ | ⟨q2, q3, q4, q5, q6⟩
  · exact ⟨u, takesD (by rw [q1]; exact he), q1, q2, q3⟩
  · refine ⟨zsI u 0 21 e, ?_, FX_tr (FX_mk q3) q4⟩
    rw [takesF q6, stS_eq q2, q5]
theorem EE_closes {x : Nat → Int32} {n N : Nat} {e cl : Int32} {τ u : zSt} (h : EE x n e cl τ u) (he : e ≠ 0) : ∃ z, fX12_closes N (sgC cl) u = some ((), z) ∧ FXb x n 1200 e τ z := by
  obtain ⟨z, h1, h2⟩ := EE_takes (N := N) h he
  refine ⟨_, ?_, FX_I (k := 37) (v := zI z 0 37 - 1) h2 (by omega)⟩
  unfold fX12_closes
  rw [h1]
  rfl
theorem EE_A {x : Nat → Int32} {n a i : Nat} {e cl v : Int32} {τ u : zSt} (h : EE x n e cl τ u) (ha : 7 ≤ a ∧ a ≤ 33) : EE x n e cl τ (zsA u a i v) := by
  rcases h with ⟨q1, q2, q3⟩ | ⟨q2, q3, q4, q5, q6⟩
  · exact Or.inl ⟨q1, rD_A q2 ha, fP_A q3 ha⟩
  · exact Or.inr ⟨q2, rD_A q3 ha, fP_A q4 ha, q5, q6⟩
/-- expression() behind what is wrong -/
theorem exprD {x : Nat → Int32} {n N b : Nat} {e s : Int32} {τ u : zSt} (h : FXb x n b e τ u) (he : e ≠ 0) (hN : 5000 ≤ N) : ∃ z, fX12_expression N s u = some (0, z) ∧ FXb x n b e τ z := by
  have h1 : FXb x n b e τ (zsI u 0 54 (0 : Int32)) := FX_I h (by omega)
  have h54 : zI (zsI u 0 54 (0 : Int32)) 0 54 = nI 0 := by simp only [zI_I, zI_L, zI_R, zI_A, zI_B, zL_I, zL_L, zL_R, zL_A, zL_B, zA_I, zA_L, zA_R, zA_A, zA_B, zB_I, zB_L, zB_R, zB_A, zB_B, reduceIte, Nat.reduceEqDiff, Nat.reduceEqDiff, false_and, and_false, true_and, and_true, ne_eq, not_false_eq_true, not_true_eq_false]; rfl
  have h2 : FXb x n b e τ (wtS (zsI u 0 54 (0 : Int32)) 0 0 (-1) s) := by
    unfold wtS
    exact FX_I (FX_A (FX_A (FX_A (FX_A (FX_A h1 (by omega)) (by omega)) (by omega)) (by omega)) (by omega)) (by omega)
  refine ⟨_, ?_, h2⟩
  unfold fX12_expression fX12_works
  obtain ⟨N, rfl⟩ : ∃ g, N = g + 1 := ⟨N - 1, by omega⟩
  rw [bnd_e, waitsR h54 (by omega), obd_s, bnd_e, fX12_works_b2, isWellF (by rw [h2.1]; exact he), obd_s, if_pos rfl]
  rfl
