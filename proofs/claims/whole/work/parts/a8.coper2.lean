/-! THE CLASS: read ( ) and ( E ) -/
section
variable {ln : Nat → Nat} {N M q cc : Nat} {x : Nat → Int32} {n tc : Nat} {G : gE} {L : lE} {np : Nat} {fnd st : Nat → Int32} {tk : yTok} {c ns s p t D : Nat} {σ : zSt}
theorem opReadC {R : yRec} (hL : LN ln q cc) (hn : n ≤ 512) (hN : 5000 ≤ N) (hG : G.2.2.2.2 + L.2.2 ≤ n) (ht : t ≤ 512) (h : CV ln q x n tc G L np fnd (-1) tk c ns s p t σ) (hB : CB n tc tk c ns s p D) (hP : p ≤ 4 + 20 * (s + D)) (hk : tk.2.2.1 = 48) :
    wp (fX2_reading ln N M σ) (OQ ln q x n tc G L np fnd st tk ns s p t D σ (yOper x n tc R G L ns tk c)) := by
  have hEB := EB_ge (ns := ns + 1)
  have hB0 := hB
  obtain ⟨b1, b2, b3, b4, b5, b6⟩ := hB
  have hp1 := b1.1
  have hp2 := b1.2.1
  have hlt := tk_ne b1 hk (by decide)
  have hnl := h.1.1.2.1
  have hy : yOper x n tc R G L ns tk c = xb (fo tc c tk.2.1) (fun c1 => xb (cm x n tk) (fun t1 => xb (need 49 t1) (fun _ => xb (ne ns t1.2.1) (fun _ => xb (cm x n t1) (fun t2 => xb (need 50 t2) (fun _ => xb (cm x n t2) (fun t3 => .ok (fN 10 0 0 fZ fZ fZ, t3, c1, none)))))))) := by
    unfold yOper
    rw [if_neg (by rw [hk]; decide), if_neg (by rw [hk]; decide), if_pos hk]
  rw [hy]
  generalize hres : xb (fo tc c tk.2.1) (fun c1 => xb (cm x n tk) (fun t1 => xb (need 49 t1) (fun _ => xb (ne ns t1.2.1) (fun _ => xb (cm x n t1) (fun t2 => xb (need 50 t2) (fun _ => xb (cm x n t2) (fun t3 => Except.ok (fN 10 0 0 fZ fZ fZ, t3, c1, none)))))))) = res
  -- told: the rest
  have d7 : ∀ e z, res = .error e → e ≠ 0 → DS ln q e 11000 z → fR q σ z → wp (rbd (zR z 5 9) 13 14 (fun q17 => obd (fX0_add ln N M q17 (35 : Int32) z) (fun _ σ19 => rbd (zR σ19 5 8) 11 12 (fun q20 => obd (fX9_add ln N M q20 (5 : Int32) (0 : Int32) (-1 : Int32) (-1 : Int32) σ19) (fun r21 σ22 => some (r21, σ22)))))) (OQ ln q x n tc G L np fnd st tk ns s p t D σ res) := by
    intro e z hr he hd hf
    have key : wp (rbd (zR z 5 9) 13 14 (fun q17 => obd (fX0_add ln N M q17 (35 : Int32) z) (fun _ σ19 => rbd (zR σ19 5 8) 11 12 (fun q20 => obd (fX9_add ln N M q20 (5 : Int32) (0 : Int32) (-1 : Int32) (-1 : Int32) σ19) (fun r21 σ22 => some (r21, σ22)))))) (fun _ y => DD ln q e 11001 z y) := by
      rw [rbC hL.1 hd.2.2.2.1.2.1]
      refine wpD (addD hL (by omega) hd) (fun _ u hu => ?_)
      rw [rbT hL.1 hu.2.2.2.1.1]
      exact wp_ret (treeD hL hu)
    exact wp_mono key (fun r y hy => OQ_e hr he hy.1 (fR_trans hf hy.2) (by omega))
  have d5 : ∀ e z, res = .error e → e ≠ 0 → DS ln q e 11000 z → fR q σ z → wp (obd (fX1_leave ln N M z) (fun _ σ14 => obd (fX7_come ln N M σ14) (fun _ z => rbd (zR z 5 9) 13 14 (fun q17 => obd (fX0_add ln N M q17 (35 : Int32) z) (fun _ σ19 => rbd (zR σ19 5 8) 11 12 (fun q20 => obd (fX9_add ln N M q20 (5 : Int32) (0 : Int32) (-1 : Int32) (-1 : Int32) σ19) (fun r21 σ22 => some (r21, σ22)))))))) (OQ ln q x n tc G L np fnd st tk ns s p t D σ res) := by
    intro e z hr he hd hf
    refine wp_obd (wp_mono (leaveD hL.1 hd) (fun _ u hu => ?_))
    rw [comeD hu.1, obd_s]
    exact d7 e u hr he hu.1 (fR_trans hf hu.2)
  have d2 : ∀ e z, res = .error e → e ≠ 0 → DS ln q e 11000 z → fR q σ z → wp (obd (fX1_enter ln N M z) (fun _ σ8 => obd (fX7_come ln N M σ8) (fun _ σ10 => obd (fX7_need ln N M (50 : Int32) σ10) (fun _ z => obd (fX1_leave ln N M z) (fun _ σ14 => obd (fX7_come ln N M σ14) (fun _ z => rbd (zR z 5 9) 13 14 (fun q17 => obd (fX0_add ln N M q17 (35 : Int32) z) (fun _ σ19 => rbd (zR σ19 5 8) 11 12 (fun q20 => obd (fX9_add ln N M q20 (5 : Int32) (0 : Int32) (-1 : Int32) (-1 : Int32) σ19) (fun r21 σ22 => some (r21, σ22))))))))))) (OQ ln q x n tc G L np fnd st tk ns s p t D σ res) := by
    intro e z hr he hd hf
    refine wp_obd (wp_mono (enterD hL.1 hd) (fun _ u hu => ?_))
    rw [comeD hu.1, obd_s, needD hu.1, obd_s]
    exact d5 e u hr he hu.1 (fR_trans hf hu.2)
  unfold fX2_reading
  rw [h.2.1.2.1]
  refine stTake (D := D) hL hn hG ht (by omega) h hB0 ?_ ?_
  · intro c1 hfo hV1 hF1 hB1
    rw [hfo, xb_k] at hres
    revert hV1 hF1
    generalize zsI σ 3 3 (nI (tc - c1)) = s1
    intro hV1 hF1
    refine stCome (D := D) hL hn hN hG ht hV1 hB1 ?_ ?_
    · intro t1 hcm hV2 hF2 hB2 hpl1
      rw [hcm, xb_k] at hres
      have hF12 := fX_trans hF1 hF2 (Nat.le_refl _) (Nat.le_refl _) (Nat.le_refl _)
      revert hV2 hF12
      generalize cS x n tk.1 s1 = s2
      intro hV2 hF12
      refine stNeed (D := D) hL hn hG ht hV2 hB2 ?_ ?_
      · intro y hne
        rw [hne, xb_k] at hres
        have hk1 := need_kk hne
        have hlt1 := tk_ne hB2.1 hk1 (by decide)
        refine stEnter (D := D) hL hn hG ht hV2 hB2 ?_ ?_
        · intro y2 hen hV3 hF3 hB3
          rw [hen, xb_k] at hres
          have hF13 := fX_trans hF12 hF3 (Nat.le_refl _) (Nat.le_refl _) (Nat.le_refl _)
          revert hV3 hF13
          generalize zsI s2 3 4 (nI (ns + 1)) = s3
          intro hV3 hF13
          refine stCome (D := D) hL hn hN hG ht hV3 hB3 ?_ ?_
          · intro t2 hcm2 hV4 hF4 hB4 hpl2
            rw [hcm2, xb_k] at hres
            have hF14 := fX_trans hF13 hF4 (Nat.le_refl _) (Nat.le_refl _) (Nat.le_refl _)
            revert hV4 hF14
            generalize cS x n t1.1 s3 = s4
            intro hV4 hF14
            refine stNeed (D := D) hL hn hG ht hV4 hB4 ?_ ?_
            · intro y3 hne2
              rw [hne2, xb_k] at hres
              refine stLeave hL hV4 hB4 ?_
              intro hV5 hF5 hB5
              have hF15 := fX_trans hF14 hF5 (Nat.le_refl _) (Nat.le_refl _) (Nat.le_refl _)
              revert hV5 hF15
              generalize zsI s4 3 4 (nI ns) = s5
              intro hV5 hF15
              refine stCome (D := D) hL hn hN hG ht hV5 hB5 ?_ ?_
              · intro t3 hcm3 hV6 hF6 hB6 hpl3
                rw [hcm3, xb_k] at hres
                have hF16 := fX_trans hF15 hF6 (Nat.le_refl _) (Nat.le_refl _) (Nat.le_refl _)
                revert hV6 hF16
                generalize cS x n t2.1 s5 = s6
                intro hV6 hF16
                have hq1 := hB6.1.1
                have hq2 := hB6.1.2.1
                have hq3 := hB2.1.1
                have hq4 := hB4.1.1
                rw [rbC hL.1 hV6.1.2.1.2.1, addC (by have := hL.2.2.2.2.2.2.2.2.2.2.2; omega) hV6.2.2.2.2.2.2.1 (by omega), obd_s]
                obtain ⟨hV7, hF7⟩ := ck_CV (l := [35]) hL hV6
                have hcd := ckS_cd (ln := ln) (q := q) (p := p) (σ := s6) (l := [35])
                revert hV7 hF7 hcd
                generalize ckS ln q s6 p [35] = s7
                intro hV7 hF7 hcd
                rw [rbT hL.1 hV7.1.2.1.1, treeC hL hV7.2.2.2.2.2.1 (by omega), obd_s]
                obtain ⟨hV8, hF8⟩ := ta_CV (k := 5) (a := 0) (b := -1) (d := -1) hL hV7
                have hF : fX q s p t σ (taS s7 q s 5 0 (-1) (-1)) := fX_trans (fX_trans hF16 hF7 (Nat.le_refl _) (Nat.le_refl _) (Nat.le_refl _)) hF8 (Nat.le_refl _) (by omega) (Nat.le_refl _)
                have hg2 : (gl (fN 10 0 0 fZ fZ fZ)).2 = 1 := by rw [gl_N]; rfl
                refine wp_s ⟨fun e h' => (by rw [← hres] at h'; cases h'), fun A tk' c' mi h' => ?_⟩
                rw [← hres] at h'
                cases h'
                rw [hg2]
                refine ⟨s + 1, hV8, hF, crp_0 (k := 10) hL.1 (by have := hL.2.1; omega) (by omega), ⟨_, _, _, _, _, _, rfl⟩, ?_, ⟨hB6.1, hB6.2.1, b3, b4, by omega, by omega⟩, by omega, by omega, fun pl h' => (by cases h')⟩
                rw [gn_N]
                exact cdC_fX hL.1 hF8 (Nat.le_refl _) hcd
              · intro e z hcm3 he0 hE
                rw [hcm3, xb_e] at hres
                exact d7 e z hres.symm he0 hE.1 (fR_trans (fX_R hL.1 hF15) hE.2)
            · intro e z hne2 he0 hE
              rw [hne2, xb_e] at hres
              exact d5 e z hres.symm he0 hE.1 (fR_trans (fX_R hL.1 hF14) hE.2)
          · intro e z hcm2 he0 hE
            rw [hcm2, xb_e] at hres
            rw [needD hE.1, obd_s]
            exact d5 e z hres.symm he0 hE.1 (fR_trans (fX_R hL.1 hF13) hE.2)
        · intro e z hen he0 hE
          rw [hen, xb_e] at hres
          rw [comeD hE.1, obd_s, needD hE.1, obd_s]
          exact d5 e z hres.symm he0 hE.1 (fR_trans (fX_R hL.1 hF12) hE.2)
      · intro e z hne he0 hE
        rw [hne, xb_e] at hres
        exact d2 e z hres.symm he0 hE.1 (fR_trans (fX_R hL.1 hF12) hE.2)
    · intro e z hcm he0 hE
      rw [hcm, xb_e] at hres
      rw [needD hE.1, obd_s]
      exact d2 e z hres.symm he0 hE.1 (fR_trans (fX_R hL.1 hF1) hE.2)
  · intro e z hfo he0 hE
    rw [hfo, xb_e] at hres
    rw [comeD hE.1, obd_s, needD hE.1, obd_s]
    exact d2 e z hres.symm he0 hE.1 hE.2
/-- what comes of a part that is an E in brackets -/
def BQ (ln : Nat → Nat) (q : Nat) (x : Nat → Int32) (n tc : Nat) (G : gE) (L : lE) (np : Nat) (fnd st : Nat → Int32) (tk : yTok) (ns s p t D b : Nat) (τ : zSt) (res : Except Int32 (fT × yTok × Nat)) (r : Int32) (z : zSt) : Prop :=
  (∀ e, res = .error e → e ≠ 0 ∧ DS ln q e b z ∧ fR q τ z) ∧
  (∀ A tk' c', res = .ok (A, tk', c') → ∃ s', CV ln q x n tc G L np fnd (-1) tk' c' ns s' (p + (gl A).2) t z ∧ fX q s p t τ z ∧ (crp z q fnd np A).1 s s' r ∧ isNd A ∧ cdC ln q z p ((gn st (nI np) A).2 p) ∧ CB n tc tk' c' ns s' (p + (gl A).2) D ∧ p + (gl A).2 ≤ 4 + 20 * (s' + D) ∧ tk.2.1 < tk'.2.1)
theorem BQ_e {e : Int32} {z τ : zSt} {r : Int32} {b b1 : Nat} {res : Except Int32 (fT × yTok × Nat)} (hr : res = .error e) (he : e ≠ 0) (h : DS ln q e b z) (hf : fR q τ z) (hb : b ≤ b1) : BQ ln q x n tc G L np fnd st tk ns s p t D b1 τ res r z := by
  refine ⟨fun e' h' => ?_, fun A tk' c' h' => by rw [hr] at h'; cases h'⟩
  rw [hr] at h'
  cases h'
  exact ⟨he, DS_le h hb, hf⟩
/-- E and the bracket behind it: the first one has been entered and passed -/
theorem inBr {K : Int32 → zSt → Option (Int32 × zSt)} {R : yRec} {cl : Int32} {τ : zSt} {tk0 : yTok} {res : Except Int32 (fT × yTok × Nat)} (hL : LN ln q cc) (hn : n ≤ 512) (hN : 5000 ≤ N) (hG : G.2.2.2.2 + L.2.2 ≤ n) (ht : t ≤ 11 * (ns + 1)) (hK : KLv ln q x n tc G L np fnd st R K) (h : CV ln q x n tc G L np fnd (-1) tk c (ns + 1) s p t σ) (hB : CB n tc tk c (ns + 1) s p D) (hP : p ≤ 4 + 20 * (s + D)) (hcl : cl = 50 ∨ cl = 54) (hF : fX q s p t τ σ) (hpl : tk0.2.1 ≤ tk.2.1)
    (hres : res = xb (R (ns + 1) cl tk c) (fun u => xb (cm x n u.2.1) (fun t4 => .ok (u.1, t4, u.2.2)))) (h0 : res ≠ .error 0) :
    wp (obd (K cl σ) (fun r7 σ8 => obd (fX1_leave ln N M σ8) (fun _ σ10 => obd (fX7_come ln N M σ10) (fun _ σ12 => some (r7, σ12))))) (BQ ln q x n tc G L np fnd st tk0 ns s p t D (EBc (ns + 1)) τ res) := by
  have hns := hB.2.2.2.1
  have h11 : EBc (ns + 1) ≤ EBc (ns + 1) := Nat.le_refl _
  have hEB := EB_ge (ns := ns + 1)
  refine wp_obd (wp_mono (hK (ns + 1) cl tk c s p t D σ h hB hP ht (hcl.elim Or.inl (fun e => Or.inr (Or.inl e))) (fun z => h0 (by rw [hres, z]; rfl))) (fun r z hz => ?_))
  cases hr : R (ns + 1) cl tk c with
  | error e =>
    rw [hr, xb_e] at hres
    obtain ⟨he0, hd, hf⟩ := hz.1 e hr
    refine wp_obd (wp_mono (leaveD hL.1 hd) (fun _ u hu => ?_))
    rw [comeD hu.1, obd_s]
    exact wp_s (BQ_e hres he0 hu.1 (fR_trans (fX_R hL.1 hF) (fR_trans hf hu.2)) h11)
  | ok v =>
    obtain ⟨A, tk', c'⟩ := v
    rw [hr, xb_k] at hres
    obtain ⟨s', hV, hFz, hc, hnd, hcd, hBz, hPz, hen, hlt⟩ := hz.2 A tk' c' hr
    have hss : s ≤ s' := by obtain ⟨k, v, w, A', B', C', rfl⟩ := hnd; rw [crp_N] at hc; obtain ⟨m, a, b, h1, h2, h3, h4, h5, -⟩ := hc; omega
    have hk' : tk'.2.2.1 ≠ 58 := by
      intro e
      rw [e] at hen
      unfold yEnds at hen
      rw [decide_eq_true_eq] at hen
      rcases hcl with rfl | rfl
      · rcases hen with h | h
        · exact absurd h (by decide)
        · exact absurd h.2 (by decide)
      · rcases hen with h | h
        · exact absurd h (by decide)
        · exact absurd h.2 (by decide)
    have hlt' := tk_ne hBz.1 rfl hk'
    refine stLeave hL hV hBz ?_
    intro hV2 hF2 hB2
    have hF12 := fX_trans hFz hF2 hss (by omega) (Nat.le_refl _)
    have hc2 := crp_fX hL.1 hF2 (Nat.le_refl _) hc
    have hcd2 := cdC_fX hL.1 hF2 (by rw [(gn_len _ _ _).2]; omega) hcd
    revert hV2 hF12 hc2 hcd2
    generalize zsI z 3 4 (nI ns) = s2
    intro hV2 hF12 hc2 hcd2
    refine stCome (D := D) hL hn hN hG (by omega) hV2 hB2 ?_ ?_
    · intro t4 hcm hV3 hF3 hB3 hp4
      simp only [hcm, xb_k] at hres
      refine wp_s ⟨fun e h' => (by rw [hres] at h'; cases h'), fun A1 tk1 c1 h' => ?_⟩
      rw [hres] at h'
      cases h'
      exact ⟨s', hV3, fX_trans hF (fX_trans hF12 hF3 hss (by omega) (Nat.le_refl _)) (Nat.le_refl _) (Nat.le_refl _) (Nat.le_refl _), crp_fX hL.1 hF3 (Nat.le_refl _) hc2, hnd, cdC_fX hL.1 hF3 (by rw [(gn_len _ _ _).2]; omega) hcd2, hB3, hPz, by omega⟩
    · intro e z2 hcm he0 hE
      simp only [hcm, xb_e] at hres
      exact wp_s (BQ_e hres he0 hE.1 (fR_trans (fX_R hL.1 hF) (fR_trans (fX_R hL.1 hF12) hE.2)) (by omega))
/-- ( E ) -/
theorem brC {K : Int32 → zSt → Option (Int32 × zSt)} {R : yRec} (hL : LN ln q cc) (hn : n ≤ 512) (hN : 5000 ≤ N) (hG : G.2.2.2.2 + L.2.2 ≤ n) (ht : t ≤ 11 * (ns + 1)) (ht2 : t ≤ 512) (hK : KLv ln q x n tc G L np fnd st R K) (hKD : KDd ln q K) (h : CV ln q x n tc G L np fnd (-1) tk c ns s p t σ) (hB : CB n tc tk c ns s p D) (hP : p ≤ 4 + 20 * (s + D)) (h0 : yBr x n R ns tk c ≠ .error 0) :
    wp (fX2_bracketed ln N M K σ) (BQ ln q x n tc G L np fnd st tk ns s p t D (EBc (ns + 1)) σ (yBr x n R ns tk c)) := by
  have hEB := EB_ge (ns := ns + 1)
  generalize hres : yBr x n R ns tk c = res at h0 ⊢
  unfold yBr at hres
  have dead : ∀ e z, res = .error e → e ≠ 0 → DS ln q e 11000 z → fR q σ z → wp (obd (K (50 : Int32) z) (fun r7 σ8 => obd (fX1_leave ln N M σ8) (fun _ σ10 => obd (fX7_come ln N M σ10) (fun _ σ12 => some (r7, σ12))))) (BQ ln q x n tc G L np fnd st tk ns s p t D (EBc (ns + 1)) σ res) := by
    intro e z hr he hd hf
    refine wp_obd (wp_mono (hKD _ _ _ _ hd) (fun r u hu => wp_obd (wp_mono (leaveD hL.1 hu.1) (fun _ v hv => ?_))))
    rw [comeD hv.1, obd_s]
    exact wp_s (BQ_e hr he hv.1 (fR_trans hf (fR_trans hu.2 hv.2)) (by omega))
  unfold fX2_bracketed
  refine stNeed (D := D) hL hn hG ht2 h hB ?_ ?_
  · intro y hne
    rw [hne, xb_k] at hres
    have hlt := tk_ne hB.1 (need_kk hne) (by decide)
    refine stEnter (D := D) hL hn hG ht2 h hB ?_ ?_
    · intro y2 hen hV1 hF1 hB1
      rw [hen, xb_k] at hres
      revert hV1 hF1
      generalize zsI σ 3 4 (nI (ns + 1)) = s1
      intro hV1 hF1
      refine stCome (D := D) hL hn hN hG ht2 hV1 hB1 ?_ ?_
      · intro t2 hcm hV2 hF2 hB2 hpl
        rw [hcm, xb_k] at hres
        exact inBr hL hn hN hG ht hK hV2 hB2 hP (Or.inl rfl) (fX_trans hF1 hF2 (Nat.le_refl _) (Nat.le_refl _) (Nat.le_refl _)) (by omega) hres.symm h0
      · intro e z hcm he0 hE
        rw [hcm, xb_e] at hres
        exact dead e z hres.symm he0 hE.1 (fR_trans (fX_R hL.1 hF1) hE.2)
    · intro e z hen he0 hE
      rw [hen, xb_e] at hres
      rw [comeD hE.1, obd_s]
      exact dead e z hres.symm he0 hE.1 hE.2
  · intro e z hne he0 hE
    rw [hne, xb_e] at hres
    refine wp_obd (wp_mono (enterD hL.1 hE.1) (fun _ u hu => ?_))
    rw [comeD hu.1, obd_s]
    exact dead e u hres.symm he0 hu.1 (fR_trans hE.2 hu.2)
end
