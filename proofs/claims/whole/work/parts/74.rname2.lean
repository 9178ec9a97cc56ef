/-! THE REFERENCE'S READER: an S that begins with a NAME, whole -/
theorem b67D {x : Nat → Int32} {n N nd : Nat} {e p a b sd : Int32} {τ u : zSt} {Q : Int32 → zSt → Prop} (h : FXb x n 1100 e τ u) (he : e ≠ 0) (h38 : zI u 0 38 = nI nd) (hd : nd < 1100) (hQ : ∀ z, FXb x n 1100 e τ z → Q (nI nd) z) : wp (fX12_assignment_b67 N p a b sd u) Q := by
  have h1 : FXb x n 1100 e τ (ndS u 30 nd) := FX_nd h hd
  have h0 : zI (ndS u 30 nd) 0 21 ≠ 0 := by rw [h1.1]; exact he
  unfold fX12_assignment_b67
  rw [nodeR h38 (by omega), obd_s, isSignF (sgB_d h0), obd_s, if_pos rfl, isSignF (sgB_d h0), obd_s, if_pos rfl, isSignF (sgB_d h0), obd_s, if_pos rfl, strayD h0, obd_s]
  exact wp_s (hQ _ h1)
theorem b67P {x : Nat → Int32} {n N nd : Nat} {e p a b sd : Int32} {τ u : zSt} {Q : Int32 → zSt → Prop} (h : PD e u) (hr : rD x n 1100 u) (hp : fP τ u) (h38 : zI u 0 38 = nI nd) (hd : nd < 1100) (hQ : ∀ z, FXb x n 1100 e τ z → Q (nI nd) z) : wp (fX12_assignment_b67 N p a b sd u) Q := by
  have h0 : zI (ndS u 30 nd) 0 21 = 0 := (ndS_I (by omega)).trans h.1
  have hK : rK (ndS u 30 nd) (-1) := by
    have := PD_K h
    unfold rK at this ⊢
    rw [ndS_I (by omega), ndS_L]
    exact this
  have hst : stE (ndS u 30 nd) = e := by
    rw [← stE_P h]
    unfold stE
    rw [ndS_I (by omega), ndS_I (by omega)]
  unfold fX12_assignment_b67
  rw [nodeR h38 (by omega), obd_s, isSignF (sF57 h0 hK (by decide)), obd_s, if_pos rfl, isSignF (sF53 h0 hK (by decide)), obd_s, if_pos rfl, isSignF (sF49 h0 hK (by decide)), obd_s, if_pos rfl, strayR, stS_eq h0, hst, obd_s]
  exact wp_s (hQ _ (FX_tr (FX_mk (rD_nd hr hd)) (ndS_P hp)))
theorem stName {x : Nat → Int32} {n tc : Nat} {G : gE} {L : lE} {N : Nat} {R : ySrec} {tk : yTok} {c ns nd pl ms : Nat} {τ : zSt} (hn : n ≤ 512) (hN : 5000 ≤ N) (hG : G.2.2.2.2 ≤ 1400) (hLn : L.2.2 ≤ 1400) (hV : SV x n tc G L tk c ns nd τ) (hB : BD n tc tk c ns nd 0) (hk : tk.2.2.1 = 40) (h0 : yNm x n tc G R ns L pl ms tk c ≠ .error 0) : wp (fX12_statement N τ) (LQ x n tc G L tk ns nd ms τ (yNm x n tc G R ns L pl ms tk c)) := by
  have hBl := BD_le hB hn
  have hK := rT_K hV.2.1
  rw [hk] at hK
  obtain ⟨b1, b2, b3, b4, b5, b6⟩ := hB
  have hlt := tk_ne b1 hk (by decide)
  have hD := SV_rD hV b1.2.1 (by omega)
  rw [st40 hV.2.2.1 hK]
  refine wp_ret ?_
  unfold fX12_assignment
  rw [bnd_e, bnd_e, hV.2.1.2.1, hV.2.1.2.2.1, localOfR hV.1 hLn (by omega), obd_s, namedR hV.1 hG (by omega), obd_s]
  unfold yNm at h0 ⊢
  cases hlk : look G L tk.2.2.2 with
  | none =>
    have hl1 : lkN L.1 tk.2.2.2 L.2.2 = none := by
      unfold look at hlk
      split at hlk
      · cases hlk
      · assumption
    have hl2 : lkN G.1 tk.2.2.2 G.2.2.2.2 = none := by
      unfold look at hlk
      rw [hl1] at hlk
      cases hh : lkN G.1 tk.2.2.2 G.2.2.2.2 with
      | none => rfl
      | some g => rw [hh] at hlk; cases hlk
    have he0 : (3 : Int32) + 16 * nI tk.2.1 ≠ 0 := er_ne erK3 (by omega)
    rw [hl1, hl2, if_neg (by decide), if_neg (by decide), failsR, flS_eq hV.2.2.1, obd_s]
    exact wp_s (LQ_e rfl he0 (FX_mk hD) (by omega))
  | some q =>
    rw [hlk] at h0
    have hq := look_ok hlk
    obtain ⟨gi, hgi, hlook⟩ : ∃ gi : Int32, (∀ g, q = .inr g → gi = nI g) ∧ (if 0 ≤ ixI (lkN L.1 tk.2.2.2 L.2.2) then fX12_assignment_b42 N (nI tk.2.1) (ixI (lkN L.1 tk.2.2.2 L.2.2)) (ixI (lkN G.1 tk.2.2.2 G.2.2.2.2)) τ
        else if 0 ≤ ixI (lkN G.1 tk.2.2.2 G.2.2.2.2) then fX12_assignment_b42 N (nI tk.2.1) (ixI (lkN L.1 tk.2.2.2 L.2.2)) (ixI (lkN G.1 tk.2.2.2 G.2.2.2.2)) τ
        else obd (fX12_fails N 3 (nI tk.2.1) τ) (fun _ u => some (-1, u))) = fX12_assignment_b42 N (nI tk.2.1) (lxI q) gi τ := by
      unfold look at hlk
      cases h1 : lkN L.1 tk.2.2.2 L.2.2 with
      | some j =>
        rw [h1] at hlk
        cases hlk
        refine ⟨ixI (lkN G.1 tk.2.2.2 G.2.2.2.2), fun g hg => (by cases hg), ?_⟩
        have hj := (lkN_lt h1).1
        rw [if_pos (show 0 ≤ ixI (some j) from nI_pos' (by omega))]
        rfl
      | none =>
        rw [h1] at hlk
        cases h2 : lkN G.1 tk.2.2.2 G.2.2.2.2 with
        | none => rw [h2] at hlk; cases hlk
        | some g =>
          rw [h2] at hlk
          cases hlk
          refine ⟨nI g, fun g' hg => (by cases hg; rfl), ?_⟩
          have hg := (lkN_lt h2).1
          rw [if_neg (show ¬ 0 ≤ ixI none by decide), if_pos (show 0 ≤ ixI (some g) from nI_pos' (by omega))]
          rfl
    rw [hlook]
    unfold fX12_assignment_b42
    -- the sort is looked up behind the next token
    have hsort : ∀ (u : zSt), (∀ g, g < G.2.2.2.2 → zA u 8 g = G.2.1 g) → (if lxI q < 0 then (if gi < 0 ∨ 1400 ≤ gi.toNatClampNeg then none else fX12_assignment_b67 N (nI tk.2.1) (lxI q) gi (zA u 8 gi.toNatClampNeg) u) else fX12_assignment_b67 N (nI tk.2.1) (lxI q) gi 0 u) = fX12_assignment_b67 N (nI tk.2.1) (lxI q) gi (kdOf G q) u := by
      intro u hu
      rcases hq with ⟨j, rfl, hj⟩ | ⟨g, rfl, hg⟩
      · rw [if_neg (show ¬ lxI (.inl j) < 0 from nI_pos (by omega))]; rfl
      · rw [if_pos (show lxI (.inr g) < 0 from (by decide : (-1 : Int32) < 0)), hgi g rfl, nI_clamp (by omega), if_neg (ixN (show g < 1400 by omega) (by omega)), hu g hg]; rfl
    cases hf : fo tc c tk.2.1 with
    | error e =>
      have he0 : e ≠ 0 := fo_ne hf (by omega)
      have hfx : FXb x n 1100 e τ (nxS x n tk.1 (zsI (zsI τ 0 21 e) 0 36 (nI (c + 4)))) := FX_nx (FX_I (FX_mk hD) (by omega)) b1.2.1
      rw [fourE hf hV.2.2.1 hV.2.2.2.1 hV.1.2.1 (by omega), obd_s, nx_eq (x := x) (n := n) (p := tk.1) (srcR_fP hV.1.1 (fP_I (fP_I fP_refl (by omega)) (by omega))) (by simp only [zI_I, zI_L, zI_R, zI_A, zI_B, zL_I, zL_L, zL_R, zL_A, zL_B, zA_I, zA_L, zA_R, zA_A, zA_B, zB_I, zB_L, zB_R, zB_A, zB_B, reduceIte, Nat.reduceEqDiff, Nat.reduceEqDiff, false_and, and_false, true_and, and_true, ne_eq, not_false_eq_true, not_true_eq_false]; exact hV.2.1.1) b1.2.1 (by omega), obd_s, hsort _ (fun g hg => by rw [nxS_A, zA_I, zA_I]; exact (hV.1.2.2.2.1 g hg).2.1)]
      exact b67D hfx he0 (nd := nd) (by rw [nxS_I (by omega)]; simp only [zI_I, zI_L, zI_R, zI_A, zI_B, zL_I, zL_L, zL_R, zL_A, zL_B, zA_I, zA_L, zA_R, zA_A, zA_B, zB_I, zB_L, zB_R, zB_A, zB_B, reduceIte, Nat.reduceEqDiff, Nat.reduceEqDiff, false_and, and_false, true_and, and_true, ne_eq, not_false_eq_true, not_true_eq_false]; exact hV.2.2.2.2.2) (by omega) (fun z hz => LQ_e (by simp only [hf]; rfl) he0 hz (by omega))
    | ok c1 =>
      obtain ⟨hc1, hc2⟩ := fo_kk hf
      have hV1 : SV x n tc G L tk c1 ns nd (zsI τ 0 36 (nI c1)) := SV_36 hV
      have hE1 : fE nd 0 τ (zsI τ 0 36 (nI c1)) := fE_I fE_refl (by omega)
      rw [fourT hf hV.2.2.2.1 hV.1.2.1 b3, obd_s]
      revert hV1 hE1
      generalize zsI τ 0 36 (nI c1) = s1
      intro hV1 hE1
      rw [nextS hV1 b1.2.1 (by omega), obd_s, hsort _ (fun g hg => by rw [nxS_A]; exact (hV1.1.2.2.2.1 g hg).2.1)]
      simp only [hf, xb_k] at h0 ⊢
      cases hcm : cm x n tk with
      | error e =>
        have he0 := cm_ne hn hcm b1.2.1
        exact b67P (PD_nx hcm hV1.2.2.1) (rD_nx (SV_rD hV1 b1.2.1 (by omega)) b1.2.1) (nxS_P (fE_P hE1)) (nd := nd) (by rw [nxS_I (by omega)]; exact hV1.2.2.2.2.2) (by omega) (fun z hz => LQ_e rfl he0 hz (by omega))
      | ok t1 =>
        rw [hcm, xb_k] at h0
        rw [xb_k]
        have ht1 := sat_get (cm_ok (x := x) (n := n) (t := tk) (by omega) b1.2.1) hcm
        have hh1 := ht1.2
        have hV2 := SV_n hcm hV1
        have hE2 : fE nd 0 τ (nxS x n tk.1 s1) := nxS_E hE1
        revert hV2 hE2
        generalize nxS x n tk.1 s1 = s2
        intro hV2 hE2
        unfold fX12_assignment_b67
        rw [nodeR hV2.2.2.2.2.2 (by omega), obd_s]
        have hV3 : SV x n tc G L t1 c1 ns (nd + 1) (ndS s2 30 nd) := SV_nd hV2
        have hE3 : fE nd 0 τ (ndS s2 30 nd) := ndS_E hE2 (Nat.le_refl _)
        have hF3 : ndF (ndS s2 30 nd) nd 30 := ⟨nd15, nd16, nd17, nd18, nd19, nd20, nd21⟩
        revert hV3 hE3 hF3
        generalize ndS s2 30 nd = s3
        intro hV3 hE3 hF3
        have hq1 := ht1.1.1
        have hq2 := ht1.1.2.1
        have hB3 : BD n tc t1 c1 ns (nd + 1) 0 := ⟨ht1.1, by omega, b3, b4, by omega, by omega⟩
        have hK3 := rT_K hV3.2.1
        have hD3 := SV_rD hV3 hq2 (by omega)
        have he5 : (5 : Int32) + 16 * nI tk.2.1 ≠ 0 := er_ne erK5 (by omega)
        unfold yAs at h0 ⊢
        by_cases h57 : t1.2.2.1 = 57
        · rw [if_pos h57] at h0 ⊢
          rw [isSignT ((sB57 hV3.2.2.1 hK3).mpr h57), obd_s, if_neg (by decide)]
          by_cases hkd : kdOf G q = 0
          · rw [if_pos hkd] at h0 ⊢
            rw [if_pos hkd]
            exact asgEq hn hN hG hLn hq hgi hkd hV3 hB3 hE3 hF3 h57 (by omega) _ rfl h0
          · rw [if_neg hkd, if_neg hkd, failsR, flS_eq hV3.2.2.1, obd_s]
            exact wp_s (LQ_e rfl he5 (FX_tr (FX_mk hD3) (fE_P hE3)) (by omega))
        · rw [if_neg h57] at h0 ⊢
          rw [isSignF (sF57 hV3.2.2.1 hK3 h57), obd_s, if_pos rfl]
          by_cases h53 : t1.2.2.1 = 53
          · rw [if_pos h53] at h0 ⊢
            rw [isSignT ((sB53 hV3.2.2.1 hK3).mpr h53), obd_s, if_neg (by decide)]
            by_cases hkd : kdOf G q = 1
            · rw [if_pos hkd]
              rcases hq with ⟨j, rfl, hj⟩ | ⟨g, rfl, hg⟩
              · exact absurd hkd (by show ¬ (0 : Int32) = 1; decide)
              · have hgn := hV3.1.2.2.2.1 g hg
                have hx := asgIx (tk := tk) (p := tk.2.1) (ms := ms) hn hN hG hLn hg hkd hV3 hB3 hE3 hF3 h53 (by omega) _ rfl h0
                rw [hgi g rfl, nI_clamp (show nd < 2 ^ 31 by omega), if_neg (ixN (show nd < 4200 by omega) (by omega)), bnd_e, nI_clamp (show g < 2 ^ 31 by omega), if_neg (ixN (show g < 1400 by omega) (by omega)), if_neg (ixN (show nd < 4200 by omega) (by omega)), bnd_e, if_neg (ixN (show g < 1400 by omega) (by omega)), if_neg (ixN (show nd < 4200 by omega) (by omega)), bnd_e]
                rw [zA_A _ 19 _ 10, if_neg (by omega), zA_A _ 15 _ 10, if_neg (by omega), zA_A _ 15 _ 9, if_neg (by omega), hgn.2.2.1, hgn.2.2.2 (by rw [show G.2.1 g = 1 from hkd]; decide)]
                rw [nI_clamp (show nd < 2 ^ 31 by omega)] at hx
                exact hx
            · have hye : yIndex x n (yE x n tc G L 42) G q tk.2.1 ns t1 c1 = .error (5 + 16 * nI tk.2.1) := by unfold yIndex; rw [if_neg hkd]; rfl
              rw [if_neg hkd, failsR, flS_eq hV3.2.2.1, obd_s, hye]
              exact wp_s (LQ_e rfl he5 (FX_tr (FX_mk hD3) (fE_P hE3)) (by omega))
          · rw [if_neg h53] at h0 ⊢
            rw [isSignF (sF53 hV3.2.2.1 hK3 h53), obd_s, if_pos rfl]
            by_cases h49 : t1.2.2.1 = 49
            · rw [if_pos h49] at h0 ⊢
              rw [isSignT ((sB49 hV3.2.2.1 hK3).mpr h49), obd_s, if_neg (by decide)]
              by_cases hkd : kdOf G q = 2
              · rw [if_pos hkd]
                rcases hq with ⟨j, rfl, hj⟩ | ⟨g, rfl, hg⟩
                · exact absurd hkd (by show ¬ (0 : Int32) = 2; decide)
                · have hx := asgCall (tk := tk) (p := tk.2.1) (ms := ms) hn hN hG hLn hg hkd (by omega) hV3 hB3 hE3 hF3 h49 (by omega) _ rfl h0
                  rw [hgi g rfl, nI_clamp (show nd < 2 ^ 31 by omega), if_neg (ixN (show nd < 4200 by omega) (by omega)), bnd_e]
                  rw [nI_clamp (show nd < 2 ^ 31 by omega)] at hx
                  exact hx
              · have hye : yCall x n (yE x n tc G L 42) G q tk.2.1 ns t1 c1 = .error (5 + 16 * nI tk.2.1) := by unfold yCall; rw [if_neg hkd]; rfl
                rw [if_neg hkd, failsR, flS_eq hV3.2.2.1, obd_s, hye]
                exact wp_s (LQ_e rfl he5 (FX_tr (FX_mk hD3) (fE_P hE3)) (by omega))
            · rw [if_neg h49]
              have he2 : (2 : Int32) + 16 * nI t1.2.1 ≠ 0 := er_ne erK2 (by omega)
              rw [isSignF (sF49 hV3.2.2.1 hK3 h49), obd_s, if_pos rfl, strayR, stS_eq hV3.2.2.1, stE_T hV3.2.1 ht1.1.2.2.2, obd_s]
              exact wp_s (LQ_e rfl he2 (FX_tr (FX_mk hD3) (fE_P hE3)) (by omega))
