/-! THE CLASS: a program's parts, dead -/
section
variable {ln : Nat → Nat} {N M q cc b : Nat} {e : Int32} {σ : zSt}
theorem setNmD {a v : Int32} (hL : LN ln q cc) (h : DS ln q e b σ) : wp (fX4_setNode ln N M a v σ) (fun _ z => DD ln q e b σ z) ∧ wp (fX4_setPlace ln N M a v σ) (fun _ z => DD ln q e b σ z) ∧ wp (fX4_setCount ln N M a v σ) (fun _ z => DD ln q e b σ z) := by
  have h15 := hL.2.1
  have e18 := hL.2.2.2.2.1
  have e19 := hL.2.2.2.2.2.1
  have e20 := hL.2.2.2.2.2.2.1
  obtain ⟨k, h9, h10⟩ := h.2.2.2.2.2.2.1
  unfold fX4_setNode fX4_setPlace fX4_setCount
  rw [h10]
  by_cases c : a < 0
  · rw [if_pos c, if_pos c, if_pos c]
    exact ⟨wp_s ⟨h, fR_refl⟩, wp_s ⟨h, fR_refl⟩, wp_s ⟨h, fR_refl⟩⟩
  · rw [if_neg c, if_neg c, if_neg c]
    by_cases c2 : nI k ≤ a
    · rw [if_pos c2, if_pos c2, if_pos c2]
      exact ⟨wp_s ⟨h, fR_refl⟩, wp_s ⟨h, fR_refl⟩, wp_s ⟨h, fR_refl⟩⟩
    · rw [if_neg c2, if_neg c2, if_neg c2]
      have hlt : a.toNatClampNeg < k := by
        rw [Int32.le_iff_toInt_le, nI_toInt (by omega)] at c2
        have : a.toNatClampNeg = a.toInt.toNat := rfl
        rw [Int32.lt_iff_toInt_lt] at c
        have z0 : (0 : Int32).toInt = 0 := rfl
        omega
      rw [if_neg (fun w => by rcases w with w | w; exact c w; omega), if_neg (fun w => by rcases w with w | w; exact c w; omega), if_neg (fun w => by rcases w with w | w; exact c w; omega), bnd_e, bnd_e, bnd_e]
      exact ⟨wp_s ⟨DS_A h, fR_A fR_refl (Or.inl (by omega))⟩, wp_s ⟨DS_A h, fR_A fR_refl (Or.inl (by omega))⟩, wp_s ⟨DS_A h, fR_A fR_refl (Or.inl (by omega))⟩⟩
theorem setAD {a v : Int32} (hL : LN ln q cc) (h : DS ln q e b σ) : wp (fX9_setA ln N M (q + 2) a v σ) (fun _ z => DD ln q e b σ z) := by
  have hq := hL.1
  have h15 := hL.2.1
  obtain ⟨s, h7, h8⟩ := h.2.2.2.2.2.1
  unfold fX9_setA
  rw [h8, show 6 * (q + 2) - 32 = 6 * q - 20 by omega, LN_t hL (a := 6 * q - 20) (by omega) (by omega)]
  by_cases c : a < 0
  · rw [if_pos c]; exact wp_s ⟨h, fR_refl⟩
  · rw [if_neg c]
    by_cases c2 : nI s ≤ a
    · rw [if_pos c2]; exact wp_s ⟨h, fR_refl⟩
    · rw [if_neg c2]
      have hlt : a.toNatClampNeg < s := by
        rw [Int32.le_iff_toInt_le, nI_toInt (by omega)] at c2
        have : a.toNatClampNeg = a.toInt.toNat := rfl
        rw [Int32.lt_iff_toInt_lt] at c
        have z0 : (0 : Int32).toInt = 0 := rfl
        omega
      rw [if_neg (fun w => by rcases w with w | w; exact c w; omega), bnd_e]
      exact wp_s ⟨DS_A h, fR_A fR_refl (okA_t (by omega))⟩
theorem parmD {a1 a2 : Int32} (hL : LN ln q cc) (h : DS ln q e b σ) : wp (fX6_parameter ln N M a1 a2 σ) (fun _ z => DD ln q e b σ z) := by
  unfold fX6_parameter fX6_parameter_b69
  rw [bnd_e, h.2.2.1, if_neg (by decide), failHD h, obd_s]
  refine wpD (nAddD hL h) (fun _ u hu => ?_)
  rw [comeD hu, obd_s]
  exact wpS hu (Nat.le_refl _)
theorem b69D {a2 : Int32} {w : Int64} (hL : LN ln q cc) (h : DS ln q e b σ) : wp (fX6_parameter_b69 ln N M a2 w σ) (fun _ z => DD ln q e b σ z) := by
  unfold fX6_parameter_b69
  refine wpD (nAddD hL h) (fun _ u hu => ?_)
  rw [comeD hu, obd_s]
  exact wpS hu (Nat.le_refl _)
theorem pm113D {x1 : Int32} {k : Nat} (hL : LN ln q cc) (hk : k < 4000) : ∀ (m j : Nat) (σ : zSt), j ≤ k → k < m + j → DS ln q e b σ → wp (fX6_parameters_b113 ln N M m x1 (nI k) (nI j) σ) (fun _ z => DD ln q e b σ z) := by
  intro m
  induction m with
  | zero =>
    intro j σ hj hm h
    omega
  | succ m ih =>
    intro j σ hj hm h
    rw [fX6_parameters_b113]
    by_cases c : k ≤ j
    · rw [if_pos (nI_le c (by omega))]
      exact wpS h (Nat.le_refl _)
    · rw [if_neg (fun w => c (by rw [nI_le' (by omega) (by omega)] at w; exact w))]
      refine wpD (setNmD hL h).2.1 (fun _ u hu => ?_)
      rw [bnd_e, nI_1]
      exact ih (j + 1) u (by omega) (by omega) hu
theorem pm87D {x1 : Int32} {k : Nat} (hL : LN ln q cc) (hN : 5000 ≤ N) (hk : k < 4000) (h : DS ln q e b σ) : wp (fX6_parameters_b87 ln N M x1 (nI k) σ) (fun _ z => DD ln q e b σ z) := by
  have hq := hL.1
  unfold fX6_parameters_b87
  rw [passD h, obd_s]
  refine wpD (leaveD hL.1 h) (fun _ u hu => ?_)
  rw [bnd_e, bnd_e]
  have h1 : DD ln q e b u (zsI u 3 5 (nI k)) := ⟨DS_I hL.1 hu (by unfold dI; omega), fR_I fR_refl (by unfold okI; omega)⟩
  exact wp_mono (pm113D (x1 := x1) hL hk N 0 _ (by omega) (by omega) h1.1) (fun _ y hy => DD_tr hy h1.2 (Nat.le_refl _))
theorem pm30D {x1 x3 : Int32} {k m : Nat} (hL : LN ln q cc) (hN : 5000 ≤ N) (hk : k < 3900) (hm : 1 ≤ m) (h : DS ln q e b σ) : wp (fX6_parameters_b30 ln N M m x1 (nI k) x3 σ) (fun _ z => DD ln q e b σ z) := by
  obtain ⟨m, rfl⟩ : ∃ g, m = g + 1 := ⟨m - 1, by omega⟩
  rw [fX6_parameters_b30]
  by_cases c : zI σ 1 1 < x3
  · rw [if_pos c]; exact pm87D hL hN (by omega) h
  · rw [if_neg c, passD h, obd_s]
    refine wpD (parmD hL h) (fun _ u hu => ?_)
    rw [bnd_e, nI_1, hu.2.2.1, if_neg (by decide)]
    exact pm87D hL hN (by omega) hu
theorem parsD {x1 : Int32} (hL : LN ln q cc) (hN : 5000 ≤ N) (h : DS ln q e b σ) : wp (fX6_parameters ln N M x1 σ) (fun _ z => DD ln q e b σ z) := by
  unfold fX6_parameters
  refine wpD (enterD hL.1 h) (fun _ u hu => ?_)
  rw [comeD hu, obd_s, bnd_e, hu.2.2.1, if_neg (by decide), bnd_e]
  exact pm30D (k := 0) hL hN (by omega) (by omega) hu
theorem of135D (hL : LN ln q cc) (hb : b < 2 ^ 28) (h : DS ln q e b σ) : wp (fX6_openFunction_b135 ln N M σ) (fun _ z => DD ln q e (b + 2) σ z) := by
  have hq := hL.1
  unfold fX6_openFunction_b135
  rw [bnd_e, bnd_e]
  have h1 : DD ln q e b σ (zsI (zsI σ 2 8 0) 2 9 0) := ⟨DS_I hL.1 (DS_I hL.1 h (by unfold dI; omega)) (by unfold dI; omega), fR_I (fR_I fR_refl (by unfold okI; omega)) (by unfold okI; omega)⟩
  revert h1
  generalize zsI (zsI σ 2 8 0) 2 9 0 = u
  intro h1
  rw [rbC hL.1 h1.1.2.2.2.1.2.2.2.2]
  refine wp_mono (wpD (addD2 hL (by omega) h1.1) (fun _ v hv => ?_)) (fun _ y hy => DD_tr hy h1.2 (Nat.le_refl _))
  rw [needD hv, obd_s]
  exact wpD (enterD hL.1 hv) (fun _ w hw => wpS hw (Nat.le_refl _))
/-- behind the parameters -/
def tlO2 (ln : Nat → Nat) (N M : Nat) (a1_ : Int64) (x4 r7 : Int32) (r13 : Int32) (σ14 : zSt) : Option (Unit × zSt) :=
  obd (fX4_setCount ln N M (zI σ14 2 7) r13 σ14) (fun _ σ16 =>
  rbd (zR σ16 2 5) 11 12 (fun q17 =>
  obd (fX9_setA ln N M q17 r7 r13 σ16) (fun _ σ19 =>
  if (lg_cmp a1_ (1835100526 : Int64)) = 0 then (
    if r13 = 0 then (
      rbd (zR σ19 2 4) 9 10 (fun q29 =>
      bnd (zsI σ19 q29 3 r7) (fun σ30 =>
      rbd (zR σ30 2 6) 13 14 (fun q31 =>
      obd (fX0_set ln N M q31 (1 : Int32) x4 σ30) (fun _ σ33 =>
      fX6_openFunction_b135 ln N M   σ33)))))
    else (
      fX6_openFunction_b135 ln N M   σ19))
  else (
    fX6_openFunction_b135 ln N M   σ19))))
/-- behind the four cells -/
def tlO1 (ln : Nat → Nat) (N M : Nat) (a1_ : Int64) (σ2 : zSt) : Option (Unit × zSt) :=
  rbd (zR σ2 2 6) 13 14 (fun q3 =>
  bnd (zI σ2 q3 1) (fun x4 =>
  bnd (zsI σ2 2 7 (zI σ2 4 5)) (fun σ5 =>
  rbd (zR σ5 2 5) 11 12 (fun q6 =>
  obd (fX9_add ln N M q6 (19 : Int32) (0 : Int32) (-1 : Int32) (0 : Int32) σ5) (fun r7 σ8 =>
  obd (fX4_add ln N M a1_ (2 : Int32) x4 (0 : Int32) σ8) (fun _ σ10 =>
  obd (fX4_setNode ln N M (zI σ10 2 7) r7 σ10) (fun _ σ12 =>
  obd (fX6_parameters ln N M ((zI σ12 2 7) + (1 : Int32)) σ12) (fun r13 σ14 => tlO2 ln N M a1_ x4 r7 r13 σ14))))))))
theorem tlO_eq {w : Int64} {a3 : Int32} : fX6_openFunction ln N M w a3 σ = obd (fX1_takeCells ln N M a3 σ) (fun _ σ2 => tlO1 ln N M w σ2) := rfl
theorem tlO2D {w : Int64} {x4 r7 r13 : Int32} (hL : LN ln q cc) (hb : b < 2 ^ 28) (h : DS ln q e b σ) : wp (tlO2 ln N M w x4 r7 r13 σ) (fun _ z => DD ln q e (b + 2) σ z) := by
  have hq := hL.1
  unfold tlO2
  refine wpD (setNmD hL h).2.2 (fun _ u hu => ?_)
  rw [rbT hL.1 hu.2.2.2.1.2.2.2.1]
  refine wpD (setAD hL hu) (fun _ v hv => ?_)
  by_cases c1 : lg_cmp w (1835100526 : Int64) = 0
  · rw [if_pos c1]
    by_cases c2 : r13 = 0
    · rw [if_pos c2, rbP hL.1 hv.2.2.2.1.2.2.1, bnd_e]
      have h1 : DD ln q e b v (zsI v q 3 r7) := ⟨DS_I hL.1 hv (by unfold dI; omega), fR_I fR_refl (by unfold okI; omega)⟩
      rw [rbC hL.1 h1.1.2.2.2.1.2.2.2.2]
      exact wp_mono (wpD (setCD hL h1.1) (fun _ y hy => of135D hL hb hy)) (fun _ y hy => DD_tr hy h1.2 (Nat.le_refl _))
    · rw [if_neg c2]; exact of135D hL hb hv
  · rw [if_neg c1]; exact of135D hL hb hv
theorem tlO1D {w : Int64} (hL : LN ln q cc) (hN : 5000 ≤ N) (hb : b < 2 ^ 28) (h : DS ln q e b σ) : wp (tlO1 ln N M w σ) (fun _ z => DD ln q e (b + 2) σ z) := by
  have hq := hL.1
  unfold tlO1
  rw [rbC hL.1 h.2.2.2.1.2.2.2.2, bnd_e, bnd_e]
  have h1 : DD ln q e b σ (zsI σ 2 7 (zI σ 4 5)) := ⟨DS_I hL.1 h (by unfold dI; omega), fR_I fR_refl (by unfold okI; omega)⟩
  rw [rbT hL.1 h1.1.2.2.2.1.2.2.2.1]
  exact wp_mono (wpD (treeD hL h1.1) (fun r7 u hu => wpD (nAddD hL hu) (fun _ v hv => wpD (setNmD hL hv).1 (fun _ w hw => wpD (parsD hL hN hw) (fun r13 y hy => tlO2D hL hb hy))))) (fun _ y hy => DD_tr hy h1.2 (Nat.le_refl _))
theorem clFD {a : Int32} (hL : LN ln q cc) (hb : b < 2 ^ 28) (h : DS ln q e b σ) : wp (fX6_closeFunction ln N M a σ) (fun _ z => DD ln q e (b + 4) σ z) := by
  unfold fX6_closeFunction
  rw [rbC hL.1 h.2.2.2.1.2.2.2.2]
  refine wpD (addD2 hL (by omega) h) (fun _ u hu => ?_)
  rw [rbC hL.1 hu.2.2.2.1.2.2.2.2]
  refine wpD (b := b + 4) (addD2 hL (by omega) hu) (fun _ v hv => ?_)
  rw [rbC hL.1 hv.2.2.2.1.2.2.2.2]
  refine wpE (nmD (v := 0) hL hv).1 (fun r => wpD (setCD hL hv) (fun _ w hw => ?_))
  rw [rbT hL.1 hw.2.2.2.1.2.2.2.1]
  refine wpE (nmD (v := 0) hL hw).2.2.1 (fun r => wpD (setPD hL hw) (fun _ y hy => wpD (cutD hL hy) (fun _ y2 hy2 => wpS hy2 (Nat.le_refl _))))
theorem gl50D {w : Int64} {x3 x4 : Int32} (hL : LN ln q cc) (h : DS ln q e b σ) : wp (fX6_global_b50 ln N M w x3 x4 σ) (fun _ z => DD ln q e b σ z) := by
  have hq := hL.1
  unfold fX6_global_b50
  rw [passD h, obd_s, rbP hL.1 h.2.2.2.1.2.2.1]
  refine wpD (nAddD hL h) (fun _ u hu => ?_)
  rw [rbP hL.1 hu.2.2.2.1.2.2.1, bnd_e]
  exact wp_s ⟨DS_I hL.1 hu (by unfold dI; omega), fR_I fR_refl (by unfold okI; omega)⟩
/-- behind an array's opening bracket -/
def tlG (ln : Nat → Nat) (N M : Nat) (a1_ : Int64) (σ12 : zSt) : Option (Unit × zSt) :=
    obd (fX6_arraySize ln N M  σ12) (fun r13 σ14 =>
    obd (fX7_pass ln N M (41 : Int32) σ14) (fun _ σ16 =>
    obd (fX7_pass ln N M (54 : Int32) σ16) (fun _ σ18 =>
    fX6_global_b50 ln N M  a1_ 1 r13 σ18)))
theorem tlGD {w : Int64} (hL : LN ln q cc) (h : DS ln q e b σ) : wp (tlG ln N M w σ) (fun _ z => DD ln q e b σ z) := by
  unfold tlG fX6_arraySize
  rw [h.2.2.1, if_neg (by decide), obd_s, passD h, obd_s, passD h, obd_s]
  exact gl50D hL h
theorem globD {w : Int64} (hL : LN ln q cc) (h : DS ln q e b σ) : wp (fX6_global ln N M w σ) (fun _ z => DD ln q e b σ z) := by
  unfold fX6_global
  rw [bnd_e, bnd_e, h.2.2.1, if_neg (by decide)]
  exact gl50D hL h
theorem fin52D (hL : LN ln q cc) (h : DS ln q e b σ) : fX6_finish_b52 ln N M σ = some ((), zsI σ q 4 0) := by
  unfold fX6_finish_b52 fX6_finish_b71
  rw [rbP hL.1 h.2.2.2.1.2.2.1, if_neg (by rw [h.2.1]; exact h.1), if_neg (by decide), bnd_e]
theorem fin26D (hL : LN ln q cc) (h : DS ln q e b σ) : fX6_finish_b26 ln N M σ = some ((), zsI σ q 4 0) := by
  unfold fX6_finish_b26 fX0_fits
  rw [rbC hL.1 h.2.2.2.1.2.2.2.2]
  by_cases c : nI (ln (q + 4 + 32)) < zI σ (q + 4) 1
  · rw [if_pos c, obd_s, if_pos rfl, failD h, obd_s, fin52D hL h]
  · rw [if_neg c, obd_s, if_neg (by decide), fin52D hL h]
theorem finD (hL : LN ln q cc) (h : DS ln q e b σ) : fX6_readAll_b162 ln N M σ = some (e, zsI σ q 4 0) := by
  have hq := hL.1
  unfold fX6_readAll_b162 fX6_finish
  rw [needD h, obd_s, rbP hL.1 h.2.2.2.1.2.2.1]
  by_cases c : 0 ≤ zI σ q 3
  · rw [if_pos c, fin26D hL h, obd_s, zI_I, if_neg (by omega), h.2.1]
  · rw [if_neg c, failD h, obd_s, fin26D hL h, obd_s, zI_I, if_neg (by omega), h.2.1]
end
