/-! THE REFERENCE'S READER: a global from its ';' on -/
def yDE (x : Nat → Int32) (n : Nat) (P : yP) (w : Int64) (kd s : Int32) (tk : yTok) (c : Nat) : Except Int32 (yP × yTok × Nat) := xb (need 56 tk) (fun _ => xb (cm x n tk) (fun t6 => .ok (pVar P w kd s, t6, c)))
theorem DQ_w {x : Nat → Int32} {n tc : Nat} {tk tk1 : yTok} {τ τ1 z : zSt} {res : Except Int32 (yP × yTok × Nat)} (h : DQ x n tc tk1 τ1 res z) (ht : tk.2.1 ≤ tk1.2.1) (hw : fW τ τ1) : DQ x n tc tk τ res z := by
  refine ⟨fun e he => ?_, fun P' tk' c' he => ?_⟩
  · obtain ⟨q1, q2, q3, q4, q5⟩ := h.1 e he
    exact ⟨q1, q2, q3, fW_trans hw q4, q5⟩
  · obtain ⟨nd', q1, q2, q3, q4⟩ := h.2 P' tk' c' he
    exact ⟨nd', q1, q2, by omega, fW_trans hw q4⟩
theorem PV_rD {x : Nat → Int32} {n tc : Nat} {P : yP} {tk : yTok} {c nd : Nat} {τ : zSt} (h : PV x n tc P tk c nd τ) (ht : tk.1 ≤ n) (hd : nd ≤ 1100) : rD x n 1100 τ := ⟨h.1.1, ⟨tk.1, ht, h.2.2.1.1⟩, nd, hd, h.2.2.2.2.2.2.1⟩
theorem b113D {N : Nat} {w : Int64} {s f : Int32} {τ : zSt} (h : zI τ 0 21 ≠ 0) : fX12_declaration_b113 N w s f τ = some ((), τ) := by
  unfold fX12_declaration_b113
  rw [takesD h, obd_s, isWellF h, obd_s, if_pos rfl]
/-- behind a token that came: the name is told -/
theorem b113K {N g : Nat} {w : Int64} {s f : Int32} {τ : zSt} (h21 : zI τ 0 21 = 0) (h22 : zI τ 0 22 = nI g) (hg : g < 1400) : obd (fX12_isWell N τ) (fun r18 σ19 => if r18 = 0 then some ((), σ19) else if (zI σ19 0 22) < 0 ∨ 1400 ≤ (zI σ19 0 22).toNatClampNeg then none else bnd (zsB σ19 7 (zI σ19 0 22).toNatClampNeg w) (fun σ20 => if f = 0 then fX12_declaration_b155 N s (0 : Int32) (zI σ20 0 22) σ20 else fX12_declaration_b155 N s (1 : Int32) (zI σ20 0 22) σ20)) = some ((), dvS τ g w (if f = 0 then 0 else 1) s) := by
  rw [isWellT h21, obd_s, if_neg (by decide), h22, nI_clamp (by omega), if_neg (ixN hg (by omega)), bnd_e, zI_B, h22, b155_eq h22 hg, b155_eq h22 hg]
  by_cases e : f = 0
  · rw [if_pos e, if_pos e]
  · rw [if_neg e, if_neg e]
theorem b113R {x : Nat → Int32} {n tc : Nat} {P : yP} {w : Int64} {N : Nat} {s f : Int32} {tk : yTok} {c nd : Nat} {τ : zSt} (hn : n ≤ 512) (hN : 5000 ≤ N) (hG : P.1.2.2.2.2 < 1400) (hs : nI P.2.1 + s = nI (P.2.1 + s.toNatClampNeg)) (hP : PV x n tc P tk c nd τ) (hB : BD n tc tk c 0 nd 0) :
    wp (fX12_declaration_b113 N w s f τ) (fun _ z => DQ x n tc tk τ (yDE x n P w (if f = 0 then 0 else 1) s tk c) z) := by
  have hBl := BD_le hB hn
  obtain ⟨b1, b2, b3, b4, b5, b6⟩ := hB
  have hK := rT_K hP.2.2.1
  have hrd := PV_rD hP b1.2.1 (by omega)
  have hf2 : (if f = 0 then (0 : Int32) else 1) ≠ 2 := by
    by_cases e : f = 0
    · rw [if_pos e]; decide
    · rw [if_neg e]; decide
  unfold fX12_declaration_b113
  by_cases hk : tk.2.2.1 = 56
  · have hlt := tk_ne b1 hk (by decide)
    have hne : need 56 tk = .ok () := by unfold need; rw [if_pos hk]
    unfold yDE
    rw [hne, xb_k, takesR_yes ((sB56 hP.2.2.2.1 hK).mpr hk), nx_eq hP.1.1 hP.2.2.1.1 b1.2.1 (by omega), obd_s, b113K (g := P.1.2.2.2.2) ((nxS_I (by omega)).trans hP.2.2.2.1) ((nxS_I (by omega)).trans hP.2.1) hG]
    refine wp_s ?_
    cases hcm : cm x n tk with
    | error e =>
      rw [xb_e]
      have he0 := cm_ne hn hcm b1.2.1
      have hpd := PD_nx (τ := τ) hcm hP.2.2.2.1
      have hr2 := rD_nx (p := tk.1) hrd b1.2.1
      have hw := fW_nx (x := x) (n := n) (p := tk.1) (fW_refl (τ := τ))
      revert hpd hr2 hw
      generalize nxS x n tk.1 τ = v
      intro hpd hr2 hw
      refine ⟨fun e' h => ?_, fun P' tk' c' h => (by cases h)⟩
      cases h
      refine ⟨he0, Or.inr ?_, ?_, fW_dv hw, P.1.2.2.2.2 + 1, by omega, dvS_22⟩
      · unfold PD at hpd ⊢
        rw [dvS_I (by omega), dvS_I (by omega), dvS_I (by omega)]
        exact hpd
      · obtain ⟨⟨s1, s2, s3⟩, ⟨p, r2, r3⟩, d, r4, r5⟩ := hr2
        exact ⟨⟨(dvS_I (by omega)).trans s1, s2, fun j hj => (dvS_A (by omega)).trans (s3 j hj)⟩, ⟨p, r2, (dvS_I (by omega)).trans r3⟩, d, by omega, (dvS_I (by omega)).trans r5⟩
    | ok t6 =>
      rw [xb_k]
      have ht6 := sat_get (cm_ok (x := x) (n := n) (t := tk) (by omega) b1.2.1) hcm
      have hh6 := ht6.2
      have hV := PV_n hcm hP
      have hw := fW_nx (x := x) (n := n) (p := tk.1) (fW_refl (τ := τ))
      revert hV hw
      generalize nxS x n tk.1 τ = v
      intro hV hw
      refine ⟨fun e' h => (by cases h), fun P' tk' c' h => ?_⟩
      cases h
      exact ⟨nd, PV_dv hf2 hs hV, ⟨ht6.1, b2, b3, b4, by omega, by omega⟩, by omega, fW_dv hw⟩
  · have he0 : (2 : Int32) + 16 * nI tk.2.1 ≠ 0 := er_ne erK2 (by omega)
    have hne : need 56 tk = .error (2 + 16 * nI tk.2.1) := by unfold need; rw [if_neg hk]; rfl
    unfold yDE
    rw [hne, xb_e, takesF (sF56 hP.2.2.2.1 hK hk), stS_eq hP.2.2.2.1, stE_T hP.2.2.1 b1.2.2.2, obd_s, isWellF (by rw [zI_I, if_pos ⟨rfl, rfl⟩]; exact he0), obd_s, if_pos rfl]
    refine wp_s ⟨fun e' h => ?_, fun P' tk' c' h => (by cases h)⟩
    cases h
    exact ⟨he0, Or.inl (by rw [zI_I, if_pos ⟨rfl, rfl⟩]), rD_le (rD_I hrd (by omega)) (by omega), fW_I fW_refl (by omega), P.1.2.2.2.2, by omega, by rw [zI_I, if_neg (by omega)]; exact hP.2.1⟩
