/-! THE REFERENCE'S READER: an E within brackets -/
def LVp (x : Nat → Int32) (n tc : Nat) (G : gE) (L : lE) (N : Nat) (R : yRec) : Prop := ∀ (ns : Nat) (cl : Int32) (tk : yTok) (c nd v m : Nat) (τ : zSt) (Q : Int32 → zSt → Prop),
  RV x n tc G L tk c ns nd (v + 1) τ → BD n tc tk c ns nd (v + 1) → opn τ v cl → n + 5 ≤ m + tk.2.1 → R ns cl tk c ≠ .error 0 →
  (∀ t tk' c' i nd' m' u, R ns cl tk c = .ok (t, tk', c') → RV x n tc G L tk' c' ns nd' (v + 1) u → BD n tc tk' c' ns nd' (v + 1) → fE nd (v + 1) τ u → nd ≤ nd' → rep u t nd nd' (nI i) → zA u 21 i = -1 → i < 4200 → rng nd nd' i → yEnds cl tk'.2.2.1 = true → tk.2.1 < tk'.2.1 → n + 5 ≤ m' + 1 + tk'.2.1 → wp (obd (fX12_endsOpen N (nI i) u) (fun r z => fX12_works_b2 N m' r z)) Q) →
  (∀ e r u, R ns cl tk c = .error e → e ≠ 0 → FO x n e v cl τ u → Q r u) → wp (fX12_works_b2 N m (-1) τ) Q
theorem part49 {N : Nat} {τ : zSt} (h21 : zI τ 0 21 = 0) (hK : rK τ 49) : fX12_part N τ = obd (fX12_opens N 40 τ) (fun _ u => obd (fX12_isWell N u) (fun r u => if r = 0 then some ((-1 : Int32), u) else obd (fX12_waits N 1 (-1) (-1) u) (fun _ u => some ((-1 : Int32), u)))) := by
  unfold fX12_part
  rw [bnd_e, isSignF (sF22 h21 hK (by decide)), obd_s, if_pos rfl, isSignF (sF25 h21 hK (by decide)), obd_s, if_pos rfl, isSignF (sF26 h21 hK (by decide)), obd_s, if_pos rfl, if_neg (fun q => absurd ((kd41 hK.1 hK.2).mp q) (by decide)), isWordF (wF48 h21 hK (by decide)), obd_s, if_pos rfl, isSignT ((sB49 h21 hK).mpr rfl), obd_s, if_neg (by decide)]
theorem BD_le {n tc : Nat} {tk : yTok} {c ns nd w : Nat} (h : BD n tc tk c ns nd w) (hn : n ≤ 512) : tk.2.1 ≤ 512 ∧ nd ≤ 1026 ∧ w ≤ 513 ∧ tk.1 ≤ n := by
  obtain ⟨h1, h2, h3, h4, h5, h6⟩ := h
  have := h1.1
  have := h1.2.1
  exact ⟨by omega, by omega, by omega, by omega⟩
/-- something wrong in an inner E: it is told at once -/
theorem FO_in {x : Nat → Int32} {n w : Nat} {e cl : Int32} {τ u : zSt} (h : FO x n e w cl τ u) (h29 : zA τ 29 w ≠ 0) : FX x n e τ u := by
  rcases h with h | h
  · exact h
  · exact (h29 h.1).elim
theorem yEnds_50 {k : Int32} (h : yEnds 50 k = true) : k = 50 := by
  unfold yEnds at h
  rw [decide_eq_true_eq] at h
  rcases h with h | h
  · exact h
  · exact absurd h.1 (by decide)
theorem yEnds_54 {k : Int32} (h : yEnds 54 k = true) : k = 54 := by
  unfold yEnds at h
  rw [decide_eq_true_eq] at h
  rcases h with h | h
  · exact h
  · exact absurd h.1 (by decide)
theorem yEnds_56 {k : Int32} (h : yEnds 56 k = true) : k = 56 := by
  unfold yEnds at h
  rw [decide_eq_true_eq] at h
  rcases h with h | h
  · exact h
  · exact absurd h.1 (by decide)
theorem opBr {x : Nat → Int32} {n tc : Nat} {G : gE} {L : lE} {N : Nat} {R : yRec} {tk : yTok} {c ns nd w v lo lw m : Nat} {cl : Int32} {l ops : yOps} {τ : zSt} {Q : Int32 → zSt → Prop} (hn : n ≤ 512) (hN : 5000 ≤ N) (hR : LVp x n tc G L N R) (hV : RV x n tc G L tk c ns nd w τ) (hB : BD n tc tk c ns nd w) (hS : STK τ v lo cl l ops w lw nd) (hl : l.length ≤ ns) (hm : n + 5 ≤ m + tk.2.1) (hk : tk.2.2.1 = 49) (h0 : yOper x n tc R G L ns tk c ≠ .error 0)
    (hok : OK1 x n tc G L N tk ns nd w τ Q (yOper x n tc R G L ns tk c)) (her : ER1 x n v cl τ Q (yOper x n tc R G L ns tk c)) : wp (fX12_works_b2 N m (-1) τ) Q := by
  have hD := RV_D hV hB hn
  have hBl := BD_le hB hn
  obtain ⟨b1, b2, b3, b4, b5, b6⟩ := hB
  have hlt := tk_ne b1 hk (by decide)
  have hw := STK_w hS
  have hK := rT_K hV.2.1
  rw [hk] at hK
  obtain ⟨m, rfl⟩ : ∃ g, m = g + 1 := ⟨m - 1, by omega⟩
  obtain ⟨w', rfl⟩ : ∃ g, w = g + 1 := ⟨w - 1, by omega⟩
  rw [wkN hV.2.2.1 hV.2.2.2.2.2.2 (by omega), part49 hV.2.2.1 hK]
  have hsg := (sB49 hV.2.2.1 hK).mpr rfl
  have hyo : yOper x n tc R G L ns tk c = xb (ne ns tk.2.1) (fun _ => xb (cm x n tk) (fun t2 => xb (R (ns + 1) 50 t2 c) (fun u => xb (cm x n u.2.1) (fun t4 => .ok (u.1, t4, u.2.2, none))))) := by
    unfold yOper yBr need
    rw [if_neg (by rw [hk]; decide), if_neg (by rw [hk]; decide), if_neg (by rw [hk]; decide), if_pos hk, if_pos hk, xb_k]
    cases ne ns tk.2.1 with
    | error e => rfl
    | ok _ =>
      rw [xb_k, xb_k]
      cases cm x n tk with
      | error e => rfl
      | ok t2 =>
        rw [xb_k, xb_k]
        cases R (ns + 1) 50 t2 c with
        | error e => rfl
        | ok u =>
          rw [xb_k, xb_k]
          cases cm x n u.2.1 <;> rfl
  rw [hyo] at hok her h0
  cases hne : ne ns tk.2.1 with
  | error e =>
    rw [hne, xb_e] at her
    have he0 := ne_ne hne (by omega)
    have hfx : FXb x n 1100 e τ (zsI (zsI τ 0 21 e) 0 37 (nI (ns + 1))) := FX_I (FX_mk hD) (by omega)
    rw [opensE hne he0 hsg hV.2.2.1 hV.2.2.2.2.1 hV.2.1.2.1, obd_s, isWellF (by rw [hfx.1]; exact he0), obd_s, if_pos rfl, obd_s]
    exact deadV hfx (by omega) he0 (by omega) (fun r z => her e r z rfl he0)
  | ok y =>
    have hns := ne_kk hne
    rw [hne, xb_k] at hok her h0
    rw [opensT hne hsg hV.2.2.1 hV.2.2.2.2.1 b4 hV.1.1 hV.2.1.1 b1.2.1 (by omega), obd_s]
    have hV1 : RV x n tc G L tk c (ns + 1) nd (w' + 1) (zsI τ 0 37 (nI (ns + 1))) := RV_37 hV
    have hE1 : fE nd (w' + 1) τ (zsI τ 0 37 (nI (ns + 1))) := fE_I fE_refl (by omega)
    revert hV1 hE1
    generalize zsI τ 0 37 (nI (ns + 1)) = s1
    intro hV1 hE1
    cases hcm : cm x n tk with
    | error e =>
      rw [hcm, xb_e] at her
      have he0 := cm_ne hn hcm b1.2.1
      have hpd := PD_nx (τ := s1) hcm hV1.2.2.1
      have hD1 := rD_nx (p := tk.1) (RV_rD hV1 b1.2.1 (by omega)) b1.2.1
      have h54 : zI (nxS x n tk.1 s1) 0 54 = nI (w' + 1) := (nxS_I (by omega)).trans hV1.2.2.2.2.2.2
      have hE2 : fE nd (w' + 1) τ (nxS x n tk.1 s1) := nxS_E hE1
      revert hpd hD1 h54 hE2
      generalize nxS x n tk.1 s1 = s2
      intro hpd hD1 h54 hE2
      rw [isWellT hpd.1, obd_s, if_neg (by decide), waitsR h54 (by omega), obd_s, obd_s]
      obtain ⟨m, rfl⟩ : ∃ g, m = g + 2 := ⟨m - 2, by omega⟩
      have hE3 : fE nd (w' + 1) τ (wtS s2 (w' + 1) 1 (-1) (-1)) := wtS_E hE2 (Nat.le_refl _)
      refine badF (v := v) (cl := cl) (K := -1) (w := w' + 1) (rD_le (b := 1100) ⟨srcR_fE hV.1.1 hE3, ?_, ?_⟩ (by omega)) wtS_54 (by omega) ((wtS_I (by omega)).trans hpd.1) ?_ (by decide) ?_ he0 (fun r z hz => her e r z rfl he0 (FO_tr hz (fE_P hE3) (hE3.2.1 29 v (by omega) (by omega))))
      · obtain ⟨p, q1, q2⟩ := hD1.2.1; exact ⟨p, q1, (wtS_I (by omega)).trans q2⟩
      · obtain ⟨d, q1, q2⟩ := hD1.2.2; exact ⟨d, q1, (wtS_I (by omega)).trans q2⟩
      · have := PD_K hpd
        unfold rK at this ⊢
        rw [wtS_I (by omega), wtS_L]
        exact this
      · rw [← stE_P hpd]
        unfold stE
        rw [wtS_I (by omega), wtS_I (by omega)]
    | ok t2 =>
      rw [hcm, xb_k] at her hok h0
      have ht2 := sat_get (cm_ok (x := x) (n := n) (t := tk) (by omega) b1.2.1) hcm
      have hh2 := ht2.2
      have hq1 := ht2.1.1
      have hq2 := ht2.1.2.1
      have hV2 := RV_n hcm hV1
      have hE2 : fE nd (w' + 1) τ (nxS x n tk.1 s1) := nxS_E hE1
      revert hV2 hE2
      generalize nxS x n tk.1 s1 = s2
      intro hV2 hE2
      rw [isWellT hV2.2.2.1, obd_s, if_neg (by decide), waitsR hV2.2.2.2.2.2.2 (by omega), obd_s, obd_s]
      have hV3 : RV x n tc G L t2 c (ns + 1) nd (w' + 1 + 1) (wtS s2 (w' + 1) 1 (-1) (-1)) := RV_wt hV2
      have hE3 : fE nd (w' + 1) τ (wtS s2 (w' + 1) 1 (-1) (-1)) := wtS_E hE2 (Nat.le_refl _)
      have h29 : zA (wtS s2 (w' + 1) 1 (-1) (-1)) 29 (w' + 1) = 1 := wtS_t.1
      revert hV3 hE3 h29
      generalize wtS s2 (w' + 1) 1 (-1) (-1) = s3
      intro hV3 hE3 h29
      refine hR (ns + 1) 50 t2 c nd (w' + 1) m s3 Q hV3 ⟨ht2.1, b2, b3, by omega, by omega, by omega⟩ (Or.inr (Or.inl ⟨h29, rfl⟩)) (by omega) (fun q => h0 (by rw [q]; rfl)) ?_ ?_
      · intro t tk' c' i nd' m' u hres hVu hBu hEu hndu hrep h21i hi hri hEnd hplace hm'
        rw [hres, xb_k] at hok her
        have hk' := yEnds_50 hEnd
        have hBl' := BD_le hBu hn
        obtain ⟨d1, d2, d3, d4, d5, d6⟩ := hBu
        have hlt' := tk_ne d1 hk' (by decide)
        have hKu := rT_K hVu.2.1
        have hu29 : zA u 29 (w' + 1) = 1 := (hEu.2.1 29 (w' + 1) (by omega) (by omega)).trans h29
        rw [endsO hVu.2.2.2.2.2.2 (by omega) rfl hu29, if_pos rfl, closesT2 ((sB50 hVu.2.2.1 hKu).mpr hk') hVu.1.1 hVu.2.1.1 hBl'.2.2.2 (by omega) hVu.2.2.2.2.1, obd_s, obd_s, nxS_I (by omega), zI_I, if_neg (by omega), hVu.2.2.2.2.2.2, nI_pred, nxS_sw (by omega)]
        have hVz : RV x n tc G L tk' c' ns nd' (w' + 1) (zsI (zsI u 0 37 (nI ns)) 0 54 (nI (w' + 1))) := RV_54 (RV_37 hVu)
        have hEu2 : fE nd (w' + 1) s3 u := fE_trans fE_refl hEu (Nat.le_refl _) (by omega)
        have hEz : fE nd (w' + 1) τ (zsI (zsI u 0 37 (nI ns)) 0 54 (nI (w' + 1))) := fE_trans hE3 (fE_I (fE_I hEu2 (by omega)) (by omega)) (Nat.le_refl _) (Nat.le_refl _)
        have hrz : rep (zsI (zsI u 0 37 (nI ns)) 0 54 (nI (w' + 1))) t nd nd' (nI i) := rep_frame _ _ _ _ (fun j hj => ⟨hj, fun a _ _ => rfl⟩) hrep
        have hiz : zA (zsI (zsI u 0 37 (nI ns)) 0 54 (nI (w' + 1))) 21 i = -1 := h21i
        revert hVz hEz hrz hiz
        generalize zsI (zsI u 0 37 (nI ns)) 0 54 (nI (w' + 1)) = z
        intro hVz hEz hrz hiz
        cases hcm2 : cm x n tk' with
        | error e =>
          rw [hcm2, xb_e] at her
          exact penV hn hN (STK_fE (nd' := nd') hS hEz hndu) hVz hcm2 (by omega) hl (by omega) hBl'.2.2.2 hi (fE_P hEz) (hEz.2.1 29 v (by omega) (by omega)) (by omega) (fun r z hz => her e r z rfl (cm_ne hn hcm2 hBl'.2.2.2) hz)
        | ok t4 =>
          rw [hcm2, xb_k] at hok
          have ht4 := sat_get (cm_ok (x := x) (n := n) (t := tk') (by omega) hBl'.2.2.2) hcm2
          have hh4 := ht4.2
          refine hok _ t4 c' i nd' m' _ rfl (RV_n hcm2 hVz) ⟨ht4.1, d2, b3, b4, by omega, by omega⟩ (nxS_E hEz) hndu ?_ (nxS_A.trans hiz) hi (by omega) (by omega)
          exact rep_frame _ _ _ _ (fun j hj => ⟨hj, fun a _ _ => nxS_A⟩) hrz
      · intro e r u hres he0 hfo
        rw [hres, xb_e] at her
        have := FO_in hfo (by rw [h29]; decide)
        exact her e r u rfl he0 (Or.inl ⟨this.1, this.2.1, fP_trans (fE_P hE3) this.2.2⟩)
