/-! THE REFERENCE'S READER: the declaration of an array -/
theorem dar4 {x : Nat → Int32} {n tc : Nat} {P : yP} {w : Int64} {N : Nat} {f : Int32} {tk t3 t4 : yTok} {y : Unit} {c nd : Nat} {τ s4 : zSt} (hn : n ≤ 512) (hN : 5000 ≤ N) (hG : P.1.2.2.2.2 < 1400) (hs : ∀ s : Int32, 1 ≤ s.toInt → s.toInt ≤ 1000 → nI P.2.1 + s = nI (P.2.1 + s.toNatClampNeg)) (b1 : tkO n tk) (b2 : c ≤ tc) (b3 : tc ≤ 4096) (b4 : 0 ≤ 40) (b5 : nd ≤ 2 * tk.2.1 + 2) (hle : tk.2.1 ≤ t4.2.1) (hcm : cm x n tk = .ok t3) (h41 : need 41 t3 = .ok y) (hr : ¬ (t3.2.2.2 < 1 ∨ 1000 < t3.2.2.2)) (hc4 : cm x n t3 = .ok t4) (ht4 : tkO n t4 ∧ t3.1 ≤ t4.2.1) (hp4 : t4.2.1 ≤ 512)
    (shut : ∀ (e : Int32) (u : zSt) (s : Int32), zI u 0 21 = 0 → sgB u 93 = false → stE u = e → xb (ySize x n tk) (fun u => yDE x n P w (if f = 0 then 0 else 1) u.1 u.2 c) = .error e → e ≠ 0 → rD x n 1100 u → fW τ u → zI u 0 22 = nI P.1.2.2.2.2 → wp (obd (fX12_closes N 93 u) (fun _ σ31 => fX12_declaration_b113 N w s f σ31)) (fun _ z => DQ x n tc tk τ (xb (ySize x n tk) (fun u => yDE x n P w (if f = 0 then 0 else 1) u.1 u.2 c)) z))
    (hw4 : fW τ s4) (hr4 : rD x n 1100 s4) (k21 : zI s4 0 21 = 0) (k22 : zI s4 0 22 = nI P.1.2.2.2.2) (k37 : zI s4 0 37 = nI (0 + 1)) (hV4 : PV x n tc P t4 c nd (zsI s4 0 37 (nI 0))) :
    wp (obd (fX12_closes N 93 s4) (fun _ σ31 => fX12_declaration_b113 N w t3.2.2.2.toInt32 f σ31)) (fun _ z => DQ x n tc tk τ (xb (ySize x n tk) (fun u => yDE x n P w (if f = 0 then 0 else 1) u.1 u.2 c)) z) := by
  have hT4 : rT t4 s4 := by
    have := hV4.2.2.1
    unfold rT at this
    simp only [zI_I, zI_L, zI_R, zI_A, zI_B, zL_I, zL_L, zL_R, zL_A, zL_B, zA_I, zA_L, zA_R, zA_A, zA_B, zB_I, zB_L, zB_R, zB_A, zB_B, reduceIte, Nat.reduceEqDiff, Nat.reduceEqDiff, false_and, and_false, true_and, and_true, ne_eq, not_false_eq_true, not_true_eq_false] at this
    exact this
  have hK4 := rT_K hT4
  cases h54 : need 54 t4 with
  | error e =>
    obtain ⟨ee, hk4⟩ := need_ee h54
    exact shut e _ _ k21 (sF54 k21 hK4 hk4) (by rw [ee]; exact stE_T hT4 ht4.1.2.2.2) (by unfold ySize; rw [hcm, xb_k, h41, xb_k, if_neg hr, hc4, xb_k, h54, xb_e, xb_e]) (need_ne h54 (by omega)) hr4 hw4 k22
  | ok y4 =>
    have hk4 := need_kk h54
    have hlt4 := tk_ne ht4.1 hk4 (by decide)
    rw [closesT2 (ns := 0) ((sB54 k21 hK4).mpr hk4) hr4.1 hT4.1 ht4.1.2.1 (by omega) k37, obd_s]
    have hw5 : fW τ (zsI s4 0 37 (nI 0)) := fW_I hw4 (by omega)
    have hr5 : rD x n 1100 (zsI s4 0 37 (nI 0)) := rD_I hr4 (by omega)
    revert hV4 hw5 hr5
    generalize zsI s4 0 37 (nI 0) = s5
    intro hV4 hw5 hr5
    have hw6 := fW_nx (x := x) (n := n) (p := t4.1) hw5
    cases hc5 : cm x n t4 with
    | error e =>
      have hpd := PD_nx (τ := s5) hc5 hV4.2.2.2.1
      have he0 := cm_ne hn hc5 ht4.1.2.1
      have hr6 := rD_nx (p := t4.1) hr5 ht4.1.2.1
      have m22 : zI (nxS x n t4.1 s5) 0 22 = nI P.1.2.2.2.2 := (nxS_I (by omega)).trans hV4.2.1
      revert hpd hr6 m22 hw6
      generalize nxS x n t4.1 s5 = v
      intro hw6 hpd hr6 m22
      have hres : xb (ySize x n tk) (fun u => yDE x n P w (if f = 0 then 0 else 1) u.1 u.2 c) = .error e := by unfold ySize; rw [hcm, xb_k, h41, xb_k, if_neg hr, hc4, xb_k, h54, xb_k, hc5, xb_e, xb_e]
      unfold fX12_declaration_b113
      rw [takesF (sF56 hpd.1 (PD_K hpd) (by decide)), stS_eq hpd.1, stE_P hpd, obd_s, isWellF (by rw [zI_I, if_pos ⟨rfl, rfl⟩]; exact he0), obd_s, if_pos rfl, hres]
      refine wp_s ⟨fun e' h => ?_, fun P' tk' c' h => (by cases h)⟩
      cases h
      exact ⟨he0, Or.inl (by rw [zI_I, if_pos ⟨rfl, rfl⟩]), rD_le (rD_I hr6 (by omega)) (by omega), fW_I hw6 (by omega), P.1.2.2.2.2, by omega, by rw [zI_I, if_neg (by omega)]; exact m22⟩
    | ok t5 =>
      have ht5 := sat_get (cm_ok (x := x) (n := n) (t := t4) (by omega) ht4.1.2.1) hc5
      have hh5 := ht5.2
      have hsz : ySize x n tk = .ok (t3.2.2.2.toInt32, t5) := by unfold ySize; rw [hcm, xb_k, h41, xb_k, if_neg hr, hc4, xb_k, h54, xb_k, hc5, xb_k]
      have hb := sat_get (ySize_ok (by omega) b1) hsz
      rw [hsz, xb_k]
      refine wp_mono (b113R hn hN hG (hs _ hb.1 hb.2.1) (PV_n hc5 hV4) ⟨ht5.1, b2, b3, b4, by omega, by omega⟩) (fun _ z hz => ?_)
      exact DQ_w hz (by omega) hw6
theorem darR {x : Nat → Int32} {n tc : Nat} {P : yP} {w : Int64} {N : Nat} {f : Int32} {tk : yTok} {c nd : Nat} {τ : zSt} (hn : n ≤ 512) (hN : 5000 ≤ N) (hG : P.1.2.2.2.2 < 1400) (hs : ∀ s : Int32, 1 ≤ s.toInt → s.toInt ≤ 1000 → nI P.2.1 + s = nI (P.2.1 + s.toNatClampNeg)) (hP : PV x n tc P tk c nd τ) (hB : BD n tc tk c 0 nd 0) (hk : tk.2.2.1 = 53) :
    wp (obd (fX12_opens N 91 τ) (fun _ σ27 => obd (fX12_arraySize N σ27) (fun r28 σ29 => obd (fX12_closes N 93 σ29) (fun _ σ31 => fX12_declaration_b113 N w r28 f σ31)))) (fun _ z => DQ x n tc tk τ (xb (ySize x n tk) (fun u => yDE x n P w (if f = 0 then 0 else 1) u.1 u.2 c)) z) := by
  have hBl := BD_le hB hn
  obtain ⟨b1, b2, b3, b4, b5, b6⟩ := hB
  have hlt := tk_ne b1 hk (by decide)
  have hK := rT_K hP.2.2.1
  have hrd := PV_rD hP b1.2.1 (by omega)
  rw [opensT (q := 0) (y := ()) (ns := 0) rfl ((sB53 hP.2.2.2.1 hK).mpr hk) hP.2.2.2.1 hP.2.2.2.2.2.1 (by omega) hP.1.1 hP.2.2.1.1 b1.2.1 (by omega), obd_s]
  have hV1 : PV x n tc P tk c nd (zsI (zsI τ 0 37 (nI (0 + 1))) 0 37 (nI 0)) := PV_37 hP
  have hw1 : fW τ (zsI τ 0 37 (nI (0 + 1))) := fW_I fW_refl (by omega)
  have hr1 : rD x n 1100 (zsI τ 0 37 (nI (0 + 1))) := rD_I hrd (by omega)
  have i21 : zI (zsI τ 0 37 (nI (0 + 1))) 0 21 = 0 := by rw [zI_I, if_neg (by omega)]; exact hP.2.2.2.1
  have i22 : zI (zsI τ 0 37 (nI (0 + 1))) 0 22 = nI P.1.2.2.2.2 := by rw [zI_I, if_neg (by omega)]; exact hP.2.1
  have i37 : zI (zsI τ 0 37 (nI (0 + 1))) 0 37 = nI (0 + 1) := by rw [zI_I, if_pos ⟨rfl, rfl⟩]
  revert hV1 hw1 hr1 i21 i22 i37
  generalize zsI τ 0 37 (nI (0 + 1)) = s1
  intro hV1 hw1 hr1 i21 i22 i37
  have hw3 := fW_nx (x := x) (n := n) (p := tk.1) hw1
  have hr3 := rD_nx (p := tk.1) hr1 b1.2.1
  have j21 : zI (nxS x n tk.1 s1) 0 21 = 0 := (nxS_I (by omega)).trans i21
  have j22 : zI (nxS x n tk.1 s1) 0 22 = nI P.1.2.2.2.2 := (nxS_I (by omega)).trans i22
  have j37 : zI (nxS x n tk.1 s1) 0 37 = nI (0 + 1) := (nxS_I (by omega)).trans i37
  have told : ∀ (e : Int32) (u : zSt) (s : Int32), xb (ySize x n tk) (fun u => yDE x n P w (if f = 0 then 0 else 1) u.1 u.2 c) = .error e → e ≠ 0 → rD x n 1100 u → fW τ u → zI u 0 22 = nI P.1.2.2.2.2 → wp (obd (fX12_closes N 93 (zsI u 0 21 e)) (fun _ σ31 => fX12_declaration_b113 N w s f σ31)) (fun _ z => DQ x n tc tk τ (xb (ySize x n tk) (fun u => yDE x n P w (if f = 0 then 0 else 1) u.1 u.2 c)) z) := by
    intro e u s hres he0 hr hw h22
    exact b113X (g := P.1.2.2.2.2) hres he0 (by rw [zI_I, if_pos ⟨rfl, rfl⟩]) (rD_le (rD_I hr (by omega)) (by omega)) (fW_I hw (by omega)) (by omega) (by rw [zI_I, if_neg (by omega)]; exact h22)
  cases hcm : cm x n tk with
  | error e =>
    have he0 := cm_ne hn hcm b1.2.1
    rw [as_PD (PD_nx hcm i21), obd_s]
    exact told e _ _ (by unfold ySize; rw [hcm, xb_e, xb_e]) he0 hr3 hw3 j22
  | ok t3 =>
    have ht3 := sat_get (cm_ok (x := x) (n := n) (t := tk) (by omega) b1.2.1) hcm
    have hh3 := ht3.2
    have hp3 : t3.2.1 ≤ 512 := by have := ht3.1.1; have := ht3.1.2.1; omega
    have hV3 : PV x n tc P t3 c nd (zsI (nxS x n tk.1 s1) 0 37 (nI 0)) := by rw [nxS_sw (by omega)]; exact PV_n hcm hV1
    revert hw3 hr3 j21 j22 j37 hV3
    generalize nxS x n tk.1 s1 = s3
    intro hw3 hr3 j21 j22 j37 hV3
    have hT3 : rT t3 s3 := by
      have := hV3.2.2.1
      unfold rT at this
      simp only [zI_I, zI_L, zI_R, zI_A, zI_B, zL_I, zL_L, zL_R, zL_A, zL_B, zA_I, zA_L, zA_R, zA_A, zA_B, zB_I, zB_L, zB_R, zB_A, zB_B, reduceIte, Nat.reduceEqDiff, Nat.reduceEqDiff, false_and, and_false, true_and, and_true, ne_eq, not_false_eq_true, not_true_eq_false] at this
      exact this
    cases h41 : need 41 t3 with
    | error e =>
      rw [as_bad hT3 j21 ht3.1 h41, obd_s]
      exact told e _ _ (by unfold ySize; rw [hcm, xb_k, h41, xb_e, xb_e]) (need_ne h41 (by omega)) hr3 hw3 j22
    | ok y =>
      have hk3 := need_kk h41
      have hlt3 := tk_ne ht3.1 hk3 (by decide)
      by_cases hr : t3.2.2.2 < 1 ∨ 1000 < t3.2.2.2
      · have hy11 : ySize x n tk = .error (11 + 16 * nI t3.2.1) := by
          unfold ySize
          rw [hcm, xb_k, h41, xb_k, if_pos hr]
          unfold er
          rfl
        have he11 : (11 : Int32) + 16 * nI t3.2.1 ≠ 0 := er_ne erK11 (by omega)
        rw [as_rng hT3 j21 hk3 hr, obd_s]
        exact told _ _ _ (by rw [hy11, xb_e]) he11 hr3 hw3 j22
      · rw [as_ok (x := x) (by omega) hr3.1 ht3.1 hT3 j21 hk3 hr, obd_s]
        have hw4 := fW_nx (x := x) (n := n) (p := t3.1) hw3
        have hr4 := rD_nx (p := t3.1) hr3 ht3.1.2.1
        have k21 : zI (nxS x n t3.1 s3) 0 21 = 0 := (nxS_I (by omega)).trans j21
        have k22 : zI (nxS x n t3.1 s3) 0 22 = nI P.1.2.2.2.2 := (nxS_I (by omega)).trans j22
        have k37 : zI (nxS x n t3.1 s3) 0 37 = nI (0 + 1) := (nxS_I (by omega)).trans j37
        have shut : ∀ (e : Int32) (u : zSt) (s : Int32), zI u 0 21 = 0 → sgB u 93 = false → stE u = e → xb (ySize x n tk) (fun u => yDE x n P w (if f = 0 then 0 else 1) u.1 u.2 c) = .error e → e ≠ 0 → rD x n 1100 u → fW τ u → zI u 0 22 = nI P.1.2.2.2.2 → wp (obd (fX12_closes N 93 u) (fun _ σ31 => fX12_declaration_b113 N w s f σ31)) (fun _ z => DQ x n tc tk τ (xb (ySize x n tk) (fun u => yDE x n P w (if f = 0 then 0 else 1) u.1 u.2 c)) z) := by
          intro e u s h21 hsg hst hres he0 hr hw h22
          have := told e u s hres he0 hr hw h22
          rw [closesD (by rw [zI_I, if_pos ⟨rfl, rfl⟩]; exact he0)] at this
          rw [closesF hsg, stS_eq h21, hst]
          exact this
        cases hc4 : cm x n t3 with
        | error e =>
          have hpd := PD_nx (τ := s3) hc4 j21
          exact shut e _ _ k21 (sF54 k21 (PD_K hpd) (by decide)) (stE_P hpd) (by unfold ySize; rw [hcm, xb_k, h41, xb_k, if_neg hr, hc4, xb_e, xb_e]) (cm_ne hn hc4 ht3.1.2.1) hr4 hw4 k22
        | ok t4 =>
          have ht4 := sat_get (cm_ok (x := x) (n := n) (t := t3) (by omega) ht3.1.2.1) hc4
          have hh4 := ht4.2
          have hp4 : t4.2.1 ≤ 512 := by have := ht4.1.1; have := ht4.1.2.1; omega
          have hV4 : PV x n tc P t4 c nd (zsI (nxS x n t3.1 s3) 0 37 (nI 0)) := by rw [nxS_sw (by omega)]; exact PV_n hc4 hV3
          exact dar4 hn hN hG hs b1 b2 b3 b4 b5 (by omega) hcm h41 hr hc4 ht4 hp4 shut hw4 hr4 k21 k22 k37 hV4
