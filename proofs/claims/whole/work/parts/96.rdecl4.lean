/-! THE REFERENCE'S READER: a declaration -/
theorem yDecl_T {x : Nat → Int32} {n tc : Nat} {P : yP} {tk : yTok} {c : Nat} : yDecl x n tc P tk c = xb (need 42 tk) (fun _ => xb (cm x n tk) (fun t1 => xb (need 40 t1) (fun _ => if (lkN P.1.1 t1.2.2.2 P.1.2.2.2.2).isSome = true then er 4 t1.2.1 else xb (cm x n t1) (fun t2 => yDT x n tc P t1.2.2.2 t1.2.1 t2 c)))) := by
  unfold yDecl yDT yDE pVar
  rfl
theorem declR {x : Nat → Int32} {n tc : Nat} {P : yP} {N : Nat} {tk : yTok} {c nd : Nat} {τ : zSt} (hn : n ≤ 512) (hN : 5000 ≤ N) (hG : P.1.2.2.2.2 < 1400) (hs : ∀ s : Int32, 1 ≤ s.toInt → s.toInt ≤ 1000 → nI P.2.1 + s = nI (P.2.1 + s.toNatClampNeg)) (hP : PV x n tc P tk c nd τ) (hB : BD n tc tk c 0 nd 0) (h0 : yDecl x n tc P tk c ≠ .error 0) :
    wp (fX12_declaration N τ) (fun _ z => DQ x n tc tk τ (yDecl x n tc P tk c) z) := by
  have hBl := BD_le hB hn
  obtain ⟨b1, b2, b3, b4, b5, b6⟩ := hB
  have hK := rT_K hP.2.2.1
  have hrd := PV_rD hP b1.2.1 (by omega)
  have told : ∀ (e : Int32) (u : zSt), yDecl x n tc P tk c = .error e → e ≠ 0 → rD x n 1100 u → fW τ u → zI u 0 22 = nI P.1.2.2.2.2 → wp (some ((), zsI u 0 21 e)) (fun _ z => DQ x n tc tk τ (yDecl x n tc P tk c) z) := by
    intro e u hres he0 hr hw h22
    rw [hres]
    refine wp_s ⟨fun e' h => ?_, fun P' tk' c' h => (by cases h)⟩
    cases h
    exact ⟨he0, Or.inl (by rw [zI_I, if_pos ⟨rfl, rfl⟩]), rD_le (rD_I hr (by omega)) (by omega), fW_I hw (by omega), P.1.2.2.2.2, by omega, by rw [zI_I, if_neg (by omega)]; exact h22⟩
  unfold fX12_declaration
  cases h42 : need 42 tk with
  | error e =>
    obtain ⟨ee, hk⟩ := need_ee h42
    have hst : stE τ = e := by rw [ee]; exact stE_T hP.2.2.1 b1.2.2.2
    rw [isWordF (wF42 hP.2.2.2.1 hK hk), obd_s, if_pos rfl, strayR, stS_eq hP.2.2.2.1, hst, obd_s]
    exact told e τ (by rw [yDecl_T, h42, xb_e]) (need_ne h42 (by omega)) hrd fW_refl hP.2.1
  | ok y =>
    have hk := need_kk h42
    have hlt := tk_ne b1 hk (by decide)
    rw [isWordT ((wB42 hP.2.2.2.1 hK).mpr hk), obd_s, if_neg (by decide), nx_eq hP.1.1 hP.2.2.1.1 b1.2.1 (by omega), obd_s]
    have hw1 := fW_nx (x := x) (n := n) (p := tk.1) (fW_refl (τ := τ))
    have hr1 := rD_nx (p := tk.1) hrd b1.2.1
    have j22 : zI (nxS x n tk.1 τ) 0 22 = nI P.1.2.2.2.2 := (nxS_I (by omega)).trans hP.2.1
    cases hcm : cm x n tk with
    | error e =>
      have hpd := PD_nx (τ := τ) hcm hP.2.2.2.1
      rw [if_neg (by rw [hpd.2.1]; decide), strayR, stS_eq hpd.1, stE_P hpd, obd_s]
      exact told e _ (by rw [yDecl_T, h42, xb_k, hcm, xb_e]) (cm_ne hn hcm b1.2.1) hr1 hw1 j22
    | ok t1 =>
      have ht1 := sat_get (cm_ok (x := x) (n := n) (t := tk) (by omega) b1.2.1) hcm
      have hh1 := ht1.2
      have hp1 : t1.2.1 ≤ 512 := by have := ht1.1.1; have := ht1.1.2.1; omega
      have hV1 := PV_n hcm hP
      rw [yDecl_T, h42, xb_k, hcm, xb_k] at h0 told ⊢
      revert hw1 hr1 j22 hV1
      generalize nxS x n tk.1 τ = s1
      intro hw1 hr1 j22 hV1
      have hK1 := rT_K hV1.2.2.1
      cases h40 : need 40 t1 with
      | error e =>
        obtain ⟨ee, hk1⟩ := need_ee h40
        have hst : stE s1 = e := by rw [ee]; exact stE_T hV1.2.2.1 ht1.1.2.2.2
        rw [h40, xb_e] at told
        rw [if_neg (fun q => hk1 ((kd40 hK1.1 hK1.2).mp q)), strayR, stS_eq hV1.2.2.2.1, hst, obd_s, xb_e]
        exact told e _ rfl (need_ne h40 (by omega)) hr1 hw1 j22
      | ok y2 =>
        have hk1 := need_kk h40
        have hlt1 := tk_ne ht1.1 hk1 (by decide)
        rw [h40, xb_k] at h0 told
        rw [xb_k, if_pos ((kd40 hK1.1 hK1.2).mpr hk1), hV1.2.2.1.2.2.1, hV1.2.2.1.2.1, bnd_e, bnd_e, namedG hV1.1 hV1.2.1 (by omega) (by omega), obd_s]
        cases hl : lkN P.1.1 t1.2.2.2 P.1.2.2.2.2 with
        | some j =>
          have hj : j < P.1.2.2.2.2 := (lkN_lt hl).1
          rw [hl] at told
          rw [if_neg (show ¬ ixI (some j) < 0 from nI_pos (by omega)), failsR, flS_eq hV1.2.2.2.1, obd_s]
          exact told _ _ rfl (er_ne erK4 (by omega)) hr1 hw1 j22
        | none =>
          rw [hl] at h0 told
          rw [if_pos (show ixI none < 0 by decide), nx_eq hV1.1.1 hV1.2.2.1.1 ht1.1.2.1 (by omega), obd_s]
          rw [if_neg (by decide)] at h0 told ⊢
          cases hc2 : cm x n t1 with
          | error e =>
            have hpd := PD_nx (τ := s1) hc2 hV1.2.2.2.1
            have he0 := cm_ne hn hc2 ht1.1.2.1
            rw [hc2, xb_e] at told
            rw [isSignF (sF49 hpd.1 (PD_K hpd) (by decide)), obd_s, if_pos rfl, bnd_e, isSignF (sF53 hpd.1 (PD_K hpd) (by decide)), obd_s, if_pos rfl, xb_e]
            unfold fX12_declaration_b113
            rw [takesF (sF56 hpd.1 (PD_K hpd) (by decide)), stS_eq hpd.1, stE_P hpd, obd_s, isWellF (by rw [zI_I, if_pos ⟨rfl, rfl⟩]; exact he0), obd_s, if_pos rfl]
            exact told e _ rfl he0 (rD_nx hr1 ht1.1.2.1) (fW_nx hw1) ((nxS_I (by omega)).trans j22)
          | ok t2 =>
            have ht2 := sat_get (cm_ok (x := x) (n := n) (t := t1) (by omega) ht1.1.2.1) hc2
            have hh2 := ht2.2
            rw [hc2, xb_k] at h0
            rw [xb_k]
            have hw2 := fW_nx (x := x) (n := n) (p := t1.1) hw1
            exact wp_mono (declT hn hN hG hs (PV_n hc2 hV1) ⟨ht2.1, b2, b3, b4, by omega, by omega⟩ hp1 h0) (fun _ z hz => DQ_w hz (by omega) hw2)
