/-! THE REFERENCE'S READER: an array's item, a call -/
theorem itemR {x : Nat → Int32} {n tc : Nat} {G : gE} {L : lE} {N : Nat} {R : yRec} {tk : yTok} {c ns nd w v lo lw m g p : Nat} {cl : Int32} {l ops : yOps} {τ : zSt} {Q : Int32 → zSt → Prop} (hn : n ≤ 512) (hN : 5000 ≤ N) (hR : LVp x n tc G L N R) (hV : RV x n tc G L tk c ns nd w τ) (hB : BD n tc tk c ns nd w) (hS : STK τ v lo cl l ops w lw nd) (hl : l.length ≤ ns) (hm : n + 4 ≤ m + tk.2.1) (hk : tk.2.2.1 = 53) (hg : g < G.2.2.2.2) (hG : G.2.2.2.2 ≤ 1400) (hs : G.2.1 g = 1) (h0 : yIndex x n R G (.inr g) p ns tk c ≠ .error 0)
    (hok : ∀ t tk' c' i nd' m' u, yIndex x n R G (.inr g) p ns tk c = .ok (t, tk', c') → RV x n tc G L tk' c' ns nd' w u → BD n tc tk' c' ns nd' w → fE nd w τ u → nd ≤ nd' → rep u (fN 4 (G.2.2.1 g).toInt (G.2.2.2.1 g).toInt t fZ fZ) nd nd' (nI i) → zA u 21 i = -1 → i < 4200 → tk.2.1 < tk'.2.1 → n + 5 ≤ m' + tk'.2.1 → wp (fX12_works_b2 N m' (nI i) u) Q)
    (her : ER1 x n v cl τ Q (yIndex x n R G (.inr g) p ns tk c)) : wp (obd (fX12_itemOf N (nI g) τ) (fun r u => fX12_works_b2 N m r u)) Q := by
  have hBl := BD_le hB hn
  obtain ⟨b1, b2, b3, b4, b5, b6⟩ := hB
  have hlt := tk_ne b1 hk (by decide)
  have hw := STK_w hS
  have hyo : yIndex x n R G (.inr g) p ns tk c = xb (ne ns tk.2.1) (fun _ => xb (cm x n tk) (fun t2 => xb (R (ns + 1) 54 t2 c) (fun u => xb (cm x n u.2.1) (fun t4 => .ok (u.1, t4, u.2.2))))) := by
    unfold yIndex
    exact if_pos hs
  rw [hyo] at hok her h0
  have hnames := hV.1.2.2.2.1 g hg
  unfold fX12_itemOf
  rw [nodeR hV.2.2.2.2.2.1 (by omega), obd_s, nI_clamp (show g < 2 ^ 31 by omega), if_neg (ixN (show g < 1400 by omega) (by omega)), nI_clamp (show nd < 2 ^ 31 by omega), if_neg (ixN (show nd < 4200 by omega) (by omega)), bnd_e, if_neg (ixN (show g < 1400 by omega) (by omega)), if_neg (ixN (show nd < 4200 by omega) (by omega)), bnd_e, zA_A, if_neg (by omega), ndS_A (by omega), ndS_A (by omega), hnames.2.2.1, hnames.2.2.2 (by rw [hs]; decide)]
  have hV0 : RV x n tc G L tk c ns (nd + 1) w (zsA (zsA (ndS τ 4 nd) 19 nd (G.2.2.1 g)) 20 nd (G.2.2.2.1 g)) := RV_A (RV_A (RV_nd hV) (by omega)) (by omega)
  have hE0 : fE nd w τ (zsA (zsA (ndS τ 4 nd) 19 nd (G.2.2.1 g)) 20 nd (G.2.2.2.1 g)) := fE_A (fE_A (ndS_E fE_refl (Nat.le_refl _)) (by omega)) (by omega)
  have hz0 : zA (zsA (zsA (ndS τ 4 nd) 19 nd (G.2.2.1 g)) 20 nd (G.2.2.2.1 g)) 15 nd = 4 ∧ zA (zsA (zsA (ndS τ 4 nd) 19 nd (G.2.2.1 g)) 20 nd (G.2.2.2.1 g)) 17 nd = -1 ∧ zA (zsA (zsA (ndS τ 4 nd) 19 nd (G.2.2.1 g)) 20 nd (G.2.2.2.1 g)) 18 nd = -1 ∧ zA (zsA (zsA (ndS τ 4 nd) 19 nd (G.2.2.1 g)) 20 nd (G.2.2.2.1 g)) 19 nd = G.2.2.1 g ∧ zA (zsA (zsA (ndS τ 4 nd) 19 nd (G.2.2.1 g)) 20 nd (G.2.2.2.1 g)) 20 nd = G.2.2.2.1 g ∧ zA (zsA (zsA (ndS τ 4 nd) 19 nd (G.2.2.1 g)) 20 nd (G.2.2.2.1 g)) 21 nd = -1 := by
    simp only [zI_I, zI_L, zI_R, zI_A, zI_B, zL_I, zL_L, zL_R, zL_A, zL_B, zA_I, zA_L, zA_R, zA_A, zA_B, zB_I, zB_L, zB_R, zB_A, zB_B, reduceIte, Nat.reduceEqDiff, Nat.reduceEqDiff, false_and, and_false, true_and, and_true, ne_eq, not_false_eq_true, not_true_eq_false, nd15, nd17, nd18, nd21, and_self]
  revert hV0 hE0 hz0
  generalize zsA (zsA (ndS τ 4 nd) 19 nd (G.2.2.1 g)) 20 nd (G.2.2.2.1 g) = s0
  intro hV0 hE0 hz0
  have hK := rT_K hV0.2.1
  have hsg := (sB53 hV0.2.2.1 hK).mpr hk
  have hD := RV_rD hV0 b1.2.1 (by omega)
  cases hne : ne ns tk.2.1 with
  | error e =>
    rw [hne, xb_e] at her
    have he0 := ne_ne hne (by omega)
    have hfx : FXb x n 1100 e τ (zsI (zsI s0 0 21 e) 0 37 (nI (ns + 1))) := FX_tr (FX_I (FX_mk hD) (by omega)) (fE_P hE0)
    rw [opensE hne he0 hsg hV0.2.2.1 hV0.2.2.2.2.1 hV0.2.1.2.1, obd_s, isWellF (by rw [hfx.1]; exact he0), obd_s, if_pos rfl, obd_s]
    exact deadV hfx (by omega) he0 (by omega) (fun r z => her e r z rfl he0)
  | ok y =>
    have hns := ne_kk hne
    rw [hne, xb_k] at hok her h0
    rw [opensT hne hsg hV0.2.2.1 hV0.2.2.2.2.1 b4 hV0.1.1 hV0.2.1.1 b1.2.1 (by omega), obd_s]
    have hV1 : RV x n tc G L tk c (ns + 1) (nd + 1) w (zsI s0 0 37 (nI (ns + 1))) := RV_37 hV0
    have hE1 : fE nd w τ (zsI s0 0 37 (nI (ns + 1))) := fE_I hE0 (by omega)
    have hz1 : ∀ a, zA (zsI s0 0 37 (nI (ns + 1))) a nd = zA s0 a nd := fun a => zA_I ..
    revert hV1 hE1 hz1
    generalize zsI s0 0 37 (nI (ns + 1)) = s1
    intro hV1 hE1 hz1
    cases hcm : cm x n tk with
    | error e =>
      rw [hcm, xb_e] at her
      have he0 := cm_ne hn hcm b1.2.1
      have hpd := PD_nx (τ := s1) hcm hV1.2.2.1
      have hD1 := rD_nx (p := tk.1) (RV_rD hV1 b1.2.1 (by omega)) b1.2.1
      have h54 : zI (nxS x n tk.1 s1) 0 54 = nI w := (nxS_I (by omega)).trans hV1.2.2.2.2.2.2
      have hE2 : fE nd w τ (nxS x n tk.1 s1) := nxS_E hE1
      revert hpd hD1 h54 hE2
      generalize nxS x n tk.1 s1 = s2
      intro hpd hD1 h54 hE2
      rw [isWellT hpd.1, obd_s, if_neg (by decide), waitsR h54 (by omega), obd_s, obd_s]
      obtain ⟨m, rfl⟩ : ∃ g, m = g + 2 := ⟨m - 2, by omega⟩
      have hE3 : fE nd w τ (wtS s2 w 2 (nI nd) (-1)) := wtS_E hE2 (Nat.le_refl _)
      refine badF (v := v) (cl := cl) (K := -1) (w := w) (rD_le (b := 1100) ⟨srcR_fE hV.1.1 hE3, ?_, ?_⟩ (by omega)) wtS_54 (by omega) ((wtS_I (by omega)).trans hpd.1) ?_ (by decide) ?_ he0 (fun r z hz => her e r z rfl he0 (FO_tr hz (fE_P hE3) (hE3.2.1 29 v (by omega) (by omega))))
      · obtain ⟨p, q1, q2⟩ := hD1.2.1; exact ⟨p, q1, (wtS_I (by omega)).trans q2⟩
      · obtain ⟨d, q1, q2⟩ := hD1.2.2; exact ⟨d, q1, (wtS_I (by omega)).trans q2⟩
      · have := PD_K hpd
        unfold rK at this ⊢
        rw [wtS_I (by omega), wtS_L]
        exact this
      · rw [← stE_P hpd]
        unfold stE
        rw [wtS_I (by omega), wtS_I (by omega)]
    | ok t2 =>
      rw [hcm, xb_k] at her hok h0
      have ht2 := sat_get (cm_ok (x := x) (n := n) (t := tk) (by omega) b1.2.1) hcm
      have hh2 := ht2.2
      have hq1 := ht2.1.1
      have hq2 := ht2.1.2.1
      have hV2 := RV_n hcm hV1
      have hE2 : fE nd w τ (nxS x n tk.1 s1) := nxS_E hE1
      have hz2 : ∀ a, zA (nxS x n tk.1 s1) a nd = zA s0 a nd := fun a => nxS_A.trans (hz1 a)
      revert hV2 hE2 hz2
      generalize nxS x n tk.1 s1 = s2
      intro hV2 hE2 hz2
      rw [isWellT hV2.2.2.1, obd_s, if_neg (by decide), waitsR hV2.2.2.2.2.2.2 (by omega), obd_s, obd_s]
      have hV3 : RV x n tc G L t2 c (ns + 1) (nd + 1) (w + 1) (wtS s2 w 2 (nI nd) (-1)) := RV_wt hV2
      have hE3 : fE nd w τ (wtS s2 w 2 (nI nd) (-1)) := wtS_E hE2 (Nat.le_refl _)
      have h29 : zA (wtS s2 w 2 (nI nd) (-1)) 29 w = 2 := wtS_t.1
      have h30 : zA (wtS s2 w 2 (nI nd) (-1)) 30 w = nI nd := wtS_t.2.1
      have hz3 : ∀ a, a ≤ 21 → zA (wtS s2 w 2 (nI nd) (-1)) a nd = zA s0 a nd := fun a ha => (wtS_A (by omega)).trans (hz2 a)
      revert hV3 hE3 h29 h30 hz3
      generalize wtS s2 w 2 (nI nd) (-1) = s3
      intro hV3 hE3 h29 h30 hz3
      refine hR (ns + 1) 54 t2 c (nd + 1) w m s3 Q hV3 ⟨ht2.1, b2, b3, by omega, by omega, by omega⟩ (Or.inr (Or.inr (Or.inl ⟨h29, rfl, nd, by omega, h30⟩))) (by omega) (fun q => h0 (by rw [q]; rfl)) ?_ ?_
      · intro t tk' c' i nd' m' u hres hVu hBu hEu hndu hrep h21i hi hri hEnd hplace hm'
        rw [hres, xb_k] at hok her
        have hk' := yEnds_54 hEnd
        have hBl' := BD_le hBu hn
        obtain ⟨d1, d2, d3, d4, d5, d6⟩ := hBu
        have hlt' := tk_ne d1 hk' (by decide)
        have hKu := rT_K hVu.2.1
        have hu29 : zA u 29 w = 2 := (hEu.2.1 29 w (by omega) (by omega)).trans h29
        have hu30 : zA u 30 w = nI nd := (hEu.2.1 30 w (by omega) (by omega)).trans h30
        have huz : ∀ a, a ≤ 21 → zA u a nd = zA s0 a nd := fun a ha => (hEu.2.1 a nd (by omega) (by omega)).trans (hz3 a ha)
        rw [endsO hVu.2.2.2.2.2.2 (by omega) hu30 hu29, if_neg (by decide), if_pos rfl, closesT2 ((sB54 hVu.2.2.1 hKu).mpr hk') hVu.1.1 hVu.2.1.1 hBl'.2.2.2 (by omega) hVu.2.2.2.2.1, obd_s, nI_clamp (by omega), if_neg (ixN (show nd < 4200 by omega) (by omega)), obd_s, nxS_I (by omega), zI_I, if_neg (by omega), hVu.2.2.2.2.2.2, nI_pred, nxS_sw (by omega)]
        rw [nxS_swA]
        have hVz : RV x n tc G L tk' c' ns nd' w (zsA (zsI (zsI u 0 37 (nI ns)) 0 54 (nI w)) 16 nd (nI i)) := RV_A (RV_54 (RV_37 hVu)) (by omega)
        have hEu2 : fE nd w s3 u := fE_trans fE_refl hEu (by omega) (by omega)
        have hEz : fE nd w τ (zsA (zsI (zsI u 0 37 (nI ns)) 0 54 (nI w)) 16 nd (nI i)) := fE_trans hE3 (fE_A (fE_I (fE_I hEu2 (by omega)) (by omega)) (by omega)) (Nat.le_refl _) (Nat.le_refl _)
        have hrz : rep (zsA (zsI (zsI u 0 37 (nI ns)) 0 54 (nI w)) 16 nd (nI i)) (fN 4 (G.2.2.1 g).toInt (G.2.2.2.1 g).toInt t fZ fZ) nd nd' (nI nd) := by
          refine rep_1 rfl (by decide) (by omega) ?_ ?_ ?_ (by omega) ?_ ?_ ?_
          · rw [zA_A, if_neg (by omega), zA_I, zA_I, huz _ (by omega)]; exact hz0.1
          · rw [zA_A, if_neg (by omega), zA_I, zA_I, huz _ (by omega), hz0.2.2.2.1, Int32.ofInt_toInt]
          · rw [zA_A, if_neg (by omega), zA_I, zA_I, huz _ (by omega), hz0.2.2.2.2.1, Int32.ofInt_toInt]
          · rw [zA_A, if_pos ⟨rfl, rfl⟩]
            refine rep_frame _ _ _ _ (fun j hj => ⟨hj, fun a _ _ => ?_⟩) hrep
            rw [zA_A, if_neg (by have := hj.1; omega), zA_I, zA_I]
          · rw [zA_A, if_neg (by omega), zA_I, zA_I, huz _ (by omega)]; exact hz0.2.1
          · rw [zA_A, if_neg (by omega), zA_I, zA_I, huz _ (by omega)]; exact hz0.2.2.1
        have hiz : zA (zsA (zsI (zsI u 0 37 (nI ns)) 0 54 (nI w)) 16 nd (nI i)) 21 nd = -1 := by rw [zA_A, if_neg (by omega), zA_I, zA_I, huz _ (by omega)]; exact hz0.2.2.2.2.2
        revert hVz hEz hrz hiz
        generalize zsA (zsI (zsI u 0 37 (nI ns)) 0 54 (nI w)) 16 nd (nI i) = z
        intro hVz hEz hrz hiz
        cases hcm2 : cm x n tk' with
        | error e =>
          rw [hcm2, xb_e] at her
          exact penV hn hN (STK_fE (nd' := nd') hS hEz (by omega)) hVz hcm2 (by omega) hl (by omega) hBl'.2.2.2 (by omega) (fE_P hEz) (hEz.2.1 29 v (by omega) (by omega)) (by omega) (fun r z hz => her e r z rfl (cm_ne hn hcm2 hBl'.2.2.2) hz)
        | ok t4 =>
          rw [hcm2, xb_k] at hok
          have ht4 := sat_get (cm_ok (x := x) (n := n) (t := tk') (by omega) hBl'.2.2.2) hcm2
          have hh4 := ht4.2
          refine hok _ t4 c' nd nd' m' _ rfl (RV_n hcm2 hVz) ⟨ht4.1, d2, b3, b4, by omega, by omega⟩ (nxS_E hEz) (by omega) ?_ (nxS_A.trans hiz) (by omega) (by omega) (by omega)
          exact rep_frame _ _ _ _ (fun j hj => ⟨hj, fun a _ _ => nxS_A⟩) hrz
      · intro e r u hres he0 hfo
        rw [hres, xb_e] at her
        have := FO_in hfo (by rw [h29]; decide)
        exact her e r u rfl he0 (Or.inl ⟨this.1, this.2.1, fP_trans (fE_P hE3) this.2.2⟩)
