/-! THE CLASS: while -/
theorem bkD {ln : Nat → Nat} {N M q cc b : Nat} {e : Int32} {σ : zSt} {K : Int32 → zSt → Option (Int32 × zSt)} (hL : LN ln q cc) (hKD : KDd ln q K) (hd : DS ln q e b σ) : wp (fX2_bracketed ln N M K σ) (fun _ y => DD ln q e b σ y) := by
  unfold fX2_bracketed
  rw [needD hd, obd_s]
  refine wpD (enterD hL.1 hd) (fun _ u hu => ?_)
  rw [comeD hu, obd_s]
  refine wpD (hKD _ _ _ _ hu) (fun r w hw => wpD (leaveD hL.1 hw) (fun _ y hy => ?_))
  rw [comeD hy, obd_s]
  exact wpS hy (Nat.le_refl _)
def tlW2 (ln : Nat → Nat) (N M : Nat) (x8 r9 x15 : Int32) (r16 : Int32) (σ17 : zSt) : Option (Int32 × zSt) :=
  rbd (zR σ17 2 6) 13 14 (fun q18 =>
  obd (fX0_addWith ln N M q18 (30 : Int32) x8 σ17) (fun _ σ20 =>
  rbd (zR σ20 2 6) 13 14 (fun q21 =>
  rbd (zR σ20 2 6) 13 14 (fun q22 =>
  obd (fX0_set ln N M q21 x15 (zI σ20 q22 1) σ20) (fun _ σ24 =>
  obd (fX1_leave ln N M  σ24) (fun _ σ26 =>
  rbd (zR σ26 2 5) 11 12 (fun q27 =>
  obd (fX9_add ln N M q27 (11 : Int32) (0 : Int32) r9 r16 σ26) (fun r28 σ29 =>
  some (r28, σ29)))))))))
def tlW1 (ln : Nat → Nat) (N M : Nat) (K : zSt → Option (Int32 × zSt)) (x8 : Int32) (r9 : Int32) (σ10 : zSt) : Option (Int32 × zSt) :=
  rbd (zR σ10 2 6) 13 14 (fun q11 =>
  obd (fX0_addWith ln N M q11 (31 : Int32) (0 : Int32) σ10) (fun _ σ13 =>
  rbd (zR σ13 2 6) 13 14 (fun q14 =>
  bnd ((zI σ13 q14 1) - (1 : Int32)) (fun x15 =>
  obd (K  σ13) (fun r16 σ17 => tlW2 ln N M x8 r9 x15 r16 σ17)))))
theorem TD_W2 {ln : Nat → Nat} {N M q cc : Nat} {x8 r9 x15 : Int32} (hL : LN ln q cc) : TD ln q (tlW2 ln N M x8 r9 x15) := by
  intro e b r z hb h
  unfold tlW2
  rw [rbC hL.1 h.2.2.2.1.2.2.2.2]
  refine wp_mono (wpD (b1 := b + 2) (addD2 hL (by omega) h) (fun _ u hu => ?_)) (fun _ y hy => DD_tr hy fR_refl (by omega))
  rw [rbC hL.1 hu.2.2.2.1.2.2.2.2, rbC hL.1 hu.2.2.2.1.2.2.2.2]
  refine wpD (setCD hL hu) (fun _ v hv => wpD (leaveD hL.1 hv) (fun _ w hw => ?_))
  rw [rbT hL.1 hw.2.2.2.1.2.2.2.1]
  exact wp_ret (treeD hL hw)
theorem TD_W1 {ln : Nat → Nat} {N M q cc : Nat} {x8 : Int32} {K : zSt → Option (Int32 × zSt)} (hL : LN ln q cc) (hKS : KSD ln q K) : ∀ e b r σ, b < 2 ^ 27 → DS ln q e b σ → wp (tlW1 ln N M K x8 r σ) (fun _ z => DD ln q e (b + 12) σ z) := by
  intro e b r z hb h
  unfold tlW1
  rw [rbC hL.1 h.2.2.2.1.2.2.2.2]
  refine wpD (addD2 hL (by omega) h) (fun _ u hu => ?_)
  rw [rbC hL.1 hu.2.2.2.1.2.2.2.2, bnd_e]
  exact wpD (hKS _ _ _ hu) (fun r v hv => TD_W2 hL e (b + 2) r v (by omega) hv)
section
variable {ln : Nat → Nat} {N M q cc : Nat} {x : Nat → Int32} {n tc : Nat} {G : gE} {L : lE} {np : Nat} {fnd st : Nat → Int32} {tk : yTok} {c ns s p D pl ms : Nat} {σ τ : zSt}
/-- frames of S keep the view, but for the names' number -/
theorem CV_fSt {L' : lE} {mu : Int32} {tk' : yTok} {c' ns' s' p' t' s1 p1 nn : Nat} {u : zSt} (hq : q = 9 ∨ q = 10) (h : CS ln q x n tc G L np fnd σ) (hf : fSt q s1 p1 nn σ u) (hnn : G.2.2.2.2 + L.2.2 ≤ nn) (h45 : zI u 4 5 = zI σ 4 5) : CS ln q x n tc G L np fnd u := by
  obtain ⟨⟨s1', s2', s3', s4'⟩, ⟨r1, r2, r3, r4, r5⟩, ⟨n1, n2, n3⟩, c1, c2⟩ := h
  refine ⟨⟨(hf.1 1 1 (by unfold sI eI; omega)).trans s1', s2', s3', fun j hj => (hf.2.2.2.1 15 j (by unfold sA eA; omega)).trans (s4' j hj)⟩, ⟨(hf.2.2.1 _ _).trans r1, (hf.2.2.1 _ _).trans r2, (hf.2.2.1 _ _).trans r3, (hf.2.2.1 _ _).trans r4, (hf.2.2.1 _ _).trans r5⟩, ⟨h45.trans n1, fun g hg => ?_, fun j hj => ?_⟩, (hf.1 3 2 (by unfold sI eI; omega)).trans c1, (hf.1 3 5 (by unfold sI eI; omega)).trans c2⟩
  · obtain ⟨a1, a2, a3, a4, a5⟩ := n2 g hg
    exact ⟨(hf.2.2.2.2 16 g (by omega)).trans a1, (hf.2.2.2.1 17 g (by unfold sA eA; omega)).trans a2, (hf.2.2.2.1 18 g (by unfold sA eA; omega)).trans a3, (hf.2.2.2.1 19 g (by unfold sA eA; omega)).trans a4, fun k => (hf.2.2.2.1 20 g (by unfold sA eA; omega)).trans (a5 k)⟩
  · obtain ⟨a1, a2, a3⟩ := n3 j hj
    exact ⟨(hf.2.2.2.2 16 _ (by omega)).trans a1, (hf.2.2.2.1 17 _ (by unfold sA eA; omega)).trans a2, (hf.2.2.2.1 18 _ (by unfold sA eA; omega)).trans a3⟩
theorem set_CV {u : zSt} {mu : Int32} {t : Nat} (hL : LN ln q cc) (hV : CV ln q x n tc G L np fnd mu tk c ns s p t σ) (z3 : ∀ a i, (a ≠ q + 36 ∨ i ≠ D) → zA u a i = zA σ a i) (z4 : ∀ o k, zI u o k = zI σ o k) (z5 : ∀ o k, zL u o k = zL σ o k) (z6 : ∀ o k, zR u o k = zR σ o k) (z7 : ∀ a i, zB u a i = zB σ a i) : CV ln q x n tc G L np fnd mu tk c ns s p t u ∧ (∀ s1 T, fX q s1 D T σ u) := by
  have hz : ∀ s1 T, fX q s1 D T σ u := fun s1 T => ⟨fun o k _ => z4 o k, fun o k _ => z5 o k, fun o k => z6 o k, fun a i hn => z3 a i (by unfold eA at hn; omega), fun a i => z7 a i⟩
  exact ⟨CV_f hL.1 hV (⟨fun o k _ => z4 o k, fun o k _ => z5 o k, fun o k => z6 o k, fun a i hn => z3 a i (by unfold eA at hn; omega), fun a i => z7 a i⟩) (fun k => z4 1 k) (fun k => z5 1 k) ((z4 _ _).trans hV.2.2.2.1) ((z4 _ _).trans hV.2.2.2.2.1) ((z4 _ _).trans hV.2.2.2.2.2.1) ((z4 _ _).trans hV.2.2.2.2.2.2.1) ((z4 _ _).trans hV.2.2.2.2.2.2.2.1) ((z4 _ _).trans hV.2.2.2.2.2.2.2.2), hz⟩
theorem whC {K : zSt → Option (Int32 × zSt)} {R : ySrec} (hL : LN ln q cc) (hn : n ≤ 512) (hN : 5000 ≤ N) (hM : 43 ≤ M) (hG : G.2.2.2.2 + L.2.2 ≤ tk.2.1) (hgs : gSr G) (hst : ∀ g, g < G.2.2.2.2 → G.2.1 g = 2 → G.2.2.1 g = st g) (hKv : KSv ln q x n tc G np fnd st R K) (hKS : KSD ln q K) (h : SVc ln q x n tc G np fnd L tk c ns s p pl ms σ) (hB : CB n tc tk c ns s p D) (hP : p ≤ 4 + 20 * (s + D)) (hpm : pl ≤ tk.2.1) (hms : ms ≤ tk.2.1) (hk : tk.2.2.1 = 45) (h0 : yWh x n tc G R ns L pl ms tk c ≠ .error 0) :
    wp (fX6_loop ln N M K σ) (SQ ln q x n tc G np fnd st L tk ns s p D pl (SBc ns) σ (yWh x n tc G R ns L pl ms tk c)) := by
  obtain ⟨h, h8, h9⟩ := h
  have hq := hL.1
  have hB0 := hB
  obtain ⟨b1, b2, b3, b4, b5, b6⟩ := hB
  have hp1 := b1.1
  have hp2 := b1.2.1
  have hlt := tk_ne b1 hk (by decide)
  have hnl := h.1.1.2.1
  have hSB := (SB_ge (ns := ns)).1
  have hcc : ln (q + 36) ≤ 4096 := by have := hL.2.2.2.2.2.2.2.2.2.2.2; omega
  generalize hres : yWh x n tc G R ns L pl ms tk c = res at h0 ⊢
  unfold yWh at hres
  obtain ⟨M', rfl⟩ : ∃ g, M = g + 1 := ⟨M - 1, by omega⟩
  have hKD := expD (N := N) (M := M' + 1) (d := M') hL hN
  have dW : ∀ e b z x8 r, res = .error e → e ≠ 0 → DS ln q e b z → b + 12 ≤ SBc ns → b < 2 ^ 27 → fR q σ z → wp (tlW1 ln N (M' + 1) K x8 r z) (SQ ln q x n tc G np fnd st L tk ns s p D pl (SBc ns) σ res) := fun e b z x8 r hr he hd hb hb2 hf => wp_mono (TD_W1 hL hKS e b r z hb2 hd) (fun r y hy => SQ_e hr he hy.1 (fR_trans hf hy.2) hb)
  have dbr : ∀ e z, res = .error e → e ≠ 0 → DS ln q e 11000 z → fR q σ z → wp (rbd (zR z 2 6) 13 14 (fun q7 => bnd (zI z q7 1) (fun x8 => obd (fX2_bracketed ln N (M' + 1) (fX2_expression ln N (M' + 1) (M' + 1)) z) (fun r9 σ10 => tlW1 ln N (M' + 1) K x8 r9 σ10)))) (SQ ln q x n tc G np fnd st L tk ns s p D pl (SBc ns) σ res) := by
    intro e z hr he hd hf
    rw [rbC hL.1 hd.2.2.2.1.2.2.2.2, bnd_e]
    refine wp_obd (wp_mono (bkD hL hKD hd) (fun r u hu => ?_))
    exact dW e _ u _ r hr he hu.1 (by omega) (by omega) (fR_trans hf hu.2)
  show wp (obd (fX1_enter ln N (M' + 1) σ) (fun _ σ2 => obd (fX1_takeCells ln N (M' + 1) (zI σ2 1 4) σ2) (fun _ σ4 => obd (fX7_come ln N (M' + 1) σ4) (fun _ z => rbd (zR z 2 6) 13 14 (fun q7 => bnd (zI z q7 1) (fun x8 => obd (fX2_bracketed ln N (M' + 1) (fX2_expression ln N (M' + 1) (M' + 1)) z) (fun r9 σ10 => tlW1 ln N (M' + 1) K x8 r9 σ10))))))) _
  refine stEnter (D := D) hL hn (by omega) (by omega) h hB0 ?_ ?_
  · intro y hen hV0 hF0 hBz
    rw [hen, xb_k] at hres
    have hns := ne_kk hen
    have hE1 : EBc (ns + 1 + 1) + 20 ≤ SBc ns := by unfold SBc EBc; omega
    have hS1 : SBc (ns + 1) + 50 ≤ SBc ns := by unfold SBc; omega
    revert hV0 hF0
    generalize zsI σ 3 4 (nI (ns + 1)) = s0
    intro hV0 hF0
    rw [hV0.2.1.2.1]
    refine stTake (D := D) hL hn (by omega) (by omega) (by omega) hV0 hBz ?_ ?_
    · intro c1 hfo hV1 hF1 hB1
      rw [hfo, xb_k] at hres
      have hF01 := fX_trans hF0 hF1 (Nat.le_refl _) (Nat.le_refl _) (Nat.le_refl _)
      revert hV1 hF01
      generalize zsI s0 3 3 (nI (tc - c1)) = s1
      intro hV1 hF01
      refine stCome (D := D) hL hn hN (by omega) (by omega) hV1 hB1 ?_ ?_
      · intro t1 hcm hV2 hF2 hB2 hpl2
        rw [hcm, xb_k] at hres
        have hF12 := fX_trans hF01 hF2 (Nat.le_refl _) (Nat.le_refl _) (Nat.le_refl _)
        have hq1 := hB2.1.1
        revert hV2 hF12
        generalize cS x n tk.1 s1 = s2
        intro hV2 hF12
        rw [rbC hL.1 hV2.1.2.1.2.2.2.2, bnd_e, hV2.2.2.2.2.2.2.1]
        refine wp_obd (wp_mono (brC (ns := ns + 1) (D := D + 1) (st := st) hL hn hN (show G.2.2.2.2 + L.2.2 ≤ n by omega) (by omega) (by omega) (expC hL hn hN (by omega) hgs hst 42 M' (by omega)) hKD hV2 ⟨hB2.1, hB2.2.1, b3, hB2.2.2.2.1, by omega, b6⟩ (by omega) (fun w => h0 (by rw [← hres, w]; rfl))) (fun r9 z hz => ?_))
        cases hr : yBr x n (yE x n tc G L 42) (ns + 1) t1 c1 with
        | error e =>
          obtain ⟨he0, hd, hf⟩ := hz.1 e hr
          rw [hr, xb_e] at hres
          exact dW e _ z _ r9 hres.symm he0 hd (by omega) (by unfold EBc; omega) (fR_trans (fX_R hq hF12) hf)
        | ok v =>
          obtain ⟨A, tk', c'⟩ := v
          rw [hr, xb_k] at hres
          obtain ⟨s3, hV3, hF3, hc3, hnd3, hcd3, hB3, hP3, hlt3⟩ := hz.2 A tk' c' hr
          have hcA := (crp_cnt A).1 _ _ _ hc3
          have hgA := gl_le A
          have hlen := (gn_len st (nI np) A).2 p
          have hF03 := fX_trans hF12 hF3 (Nat.le_refl _) (Nat.le_refl _) (Nat.le_refl _)
          have hq6 := hB3.1.1
          have hq7 := hB3.1.2.1
          have hq8 := hB3.2.2.2.2.1
          have hpz := hB3.2.2.2.2.2
          unfold tlW1
          rw [rbC hL.1 hV3.1.2.1.2.2.2.2, addC2 hcc hV3.2.2.2.2.2.2.1 (by omega), obd_s]
          obtain ⟨hV4, hF4⟩ := ck_CV (l := [31, 0]) hL hV3
          have hcd4 := ckS_cd (ln := ln) (q := q) (p := p + (gl A).2) (σ := z) (l := [31, 0])
          have hc4 := crp_fX hL.1 hF4 (Nat.le_refl _) hc3
          have hcdA4 := cdC_fX hL.1 hF4 (by omega) hcd3
          have hF04 := fX_trans hF03 hF4 (by omega) (by omega) (Nat.le_refl _)
          have h84 : zI (ckS ln q z (p + (gl A).2) [31, 0]) 2 8 = nI pl := (hF04.1 2 8 (by unfold eI; omega)).trans h8
          have h94 : zI (ckS ln q z (p + (gl A).2) [31, 0]) 2 9 = nI ms := (hF04.1 2 9 (by unfold eI; omega)).trans h9
          revert hV4 hcd4 hc4 hcdA4 hF04 h84 h94
          generalize ckS ln q z (p + (gl A).2) [31, 0] = s4
          intro hV4 hcd4 hc4 hcdA4 hF04 h84 h94
          rw [rbC hL.1 hV4.1.2.1.2.2.2.2, bnd_e, hV4.2.2.2.2.2.2.1, show p + (gl A).2 + ([31, 0] : List Int32).length = (p + (gl A).2 + 1) + 1 from rfl, nI_pred]
          have hV4' : CV ln q x n tc G L np fnd (-1) tk' c' (ns + 1) s3 (p + (gl A).2 + 2) 0 s4 := hV4
          refine wp_obd (wp_mono (hKv (ns + 1) L pl ms tk' c' s3 (p + (gl A).2 + 2) (D + 1) s4 ⟨hV4', h84, h94⟩ ⟨hB3.1, hB3.2.1, b3, hB3.2.2.2.1, hq8, by omega⟩ (by omega) (by omega) (by omega) (by omega) (fun w => h0 (by rw [← hres, w]; rfl))) (fun r16 y hy => ?_))
          cases hr2 : R (ns + 1) L pl ms tk' c' with
          | error e =>
            obtain ⟨he0, hd, hf⟩ := hy.1 e hr2
            rw [show ((A, tk', c') : fT × yTok × Nat).2.1 = tk' from rfl, show ((A, tk', c') : fT × yTok × Nat).2.2 = c' from rfl, hr2, xb_e] at hres
            exact TD_e (r := r16) (TD_W2 hL) hres.symm he0 hd (fR_trans (fX_R hq hF04) hf) (by omega) (by unfold SBc; omega)
          | ok v2 =>
            obtain ⟨B, tk2, c2, ms2⟩ := v2
            rw [show ((A, tk', c') : fT × yTok × Nat).2.1 = tk' from rfl, show ((A, tk', c') : fT × yTok × Nat).2.2 = c' from rfl, hr2, xb_k] at hres
            obtain ⟨s5, ⟨hV5, h85, h95⟩, hF5, hc5, hnd5, hcd5, hB5, hlt5, hms5, -⟩ := hy.2 B tk2 c2 ms2 hr2
            have hcB := (crp_cnt B).1 _ _ _ hc5
            have hgB := gl_le B
            have hlB := (gn_len st (nI np) B).2 (p + (gl A).2 + 2)
            have hF05 := fSt_trans (fX_T (nn := G.2.2.2.2 + L.2.2) hF04) hF5 (by omega) (by omega) (Nat.le_refl _)
            have hc45 := crp_fSt hq hF5 (Nat.le_refl _) hc4
            have hcdA5 := cdC_fSt hq hF5 (by omega) hcdA4
            have hcd45 := cdC_fSt hq hF5 (Nat.le_refl _) hcd4
            have hq9 := hB5.1.1
            have hq10 := hB5.1.2.1
            have hq11 := hB5.2.2.2.2.1
            have hpz5 := hB5.2.2.2.2.2
            unfold tlW2
            rw [rbC hL.1 hV5.1.2.1.2.2.2.2, addC2 hcc hV5.2.2.2.2.2.2.1 (by omega), obd_s]
            obtain ⟨hV6, hF6⟩ := ck_CV (l := [30, nI p]) hL hV5
            have hcd6 := ckS_cd (ln := ln) (q := q) (p := p + (gl A).2 + 2 + (gl B).2) (σ := y) (l := [30, nI p])
            have hcA6 := crp_fX hL.1 hF6 (by omega) hc45
            have hcB6 := crp_fX hL.1 hF6 (Nat.le_refl _) hc5
            have hcdA6 := cdC_fX hL.1 hF6 (by omega) hcdA5
            have hcd46 := cdC_fX hL.1 hF6 (by show p + (gl A).2 + 2 ≤ _; omega) hcd45
            have hcdB6 := cdC_fX hL.1 hF6 (by omega) hcd5
            have hF06 := fSt_trans hF05 (fX_T (nn := G.2.2.2.2 + L.2.2) hF6) (by omega) (by omega) (Nat.le_refl _)
            have h86 : zI (ckS ln q y (p + (gl A).2 + 2 + (gl B).2) [30, nI p]) 2 8 = nI pl := (hF6.1 2 8 (by unfold eI; omega)).trans h85
            have h96 : zI (ckS ln q y (p + (gl A).2 + 2 + (gl B).2) [30, nI p]) 2 9 = nI ms2 := (hF6.1 2 9 (by unfold eI; omega)).trans h95
            revert hV6 hcd6 hcA6 hcB6 hcdA6 hcd46 hcdB6 hF06 h86 h96
            generalize ckS ln q y (p + (gl A).2 + 2 + (gl B).2) [30, nI p] = s6
            intro hV6 hcd6 hcA6 hcB6 hcdA6 hcd46 hcdB6 hF06 h86 h96
            rw [rbC hL.1 hV6.1.2.1.2.2.2.2, rbC hL.1 hV6.1.2.1.2.2.2.2, hV6.2.2.2.2.2.2.1]
            obtain ⟨u, u1, u2, u3, u4, u5, u6, u7⟩ := setC (N := N) (M := M' + 1) (σ := s6) (h := p + (gl A).2 + 1) (v := nI (p + (gl A).2 + 2 + (gl B).2 + ([30, nI p] : List Int32).length)) hL (by omega)
            rw [u1, obd_s]
            obtain ⟨hV7, hF7⟩ := set_CV (D := p + (gl A).2 + 1) hL hV6 u3 u4 u5 u6 u7
            refine stLeave (D := D + 1) hL hV7 ⟨hB5.1, hB5.2.1, b3, hB5.2.2.2.1, by omega, by show p + (gl A).2 + 2 + (gl B).2 + 2 ≤ 10500; omega⟩ ?_
            intro hV8 hF8 hB8
            have hcA8 := crp_fX hL.1 hF8 (by omega) (crp_fX hL.1 (hF7 s5 0) (by omega) hcA6)
            have hcB8 := crp_fX hL.1 hF8 (Nat.le_refl _) (crp_fX hL.1 (hF7 s5 0) (Nat.le_refl _) hcB6)
            have hrow8 : ∀ i, zA (zsI u 3 4 (nI ns)) (q + 36) i = zA u (q + 36) i := fun i => zA_I ..
            have hF08 := fSt_trans hF06 (fX_T (nn := G.2.2.2.2 + L.2.2) (fX_trans (hF7 s5 0) (fX_I (s := s5) (p := p + (gl A).2 + 1) (t := 0) fX_refl (show eI q 3 4 by unfold eI; omega) : fX q s5 (p + (gl A).2 + 1) 0 u (zsI u 3 4 (nI ns))) (Nat.le_refl _) (Nat.le_refl _) (Nat.le_refl _))) (by omega) (by omega) (Nat.le_refl _)
            have h88 : zI (zsI u 3 4 (nI ns)) 2 8 = nI pl := by rw [zI_I, if_neg (by omega), u4]; exact h86
            have h98 : zI (zsI u 3 4 (nI ns)) 2 9 = nI ms2 := by rw [zI_I, if_neg (by omega), u4]; exact h96
            revert hV8 hcA8 hcB8 hrow8 hF08 h88 h98
            generalize zsI u 3 4 (nI ns) = s8
            intro hV8 hcA8 hcB8 hrow8 hF08 h88 h98
            rw [rbT hL.1 hV8.1.2.1.2.2.2.1, treeC hL hV8.2.2.2.2.2.1 (by omega), obd_s]
            obtain ⟨hV9, hF9⟩ := ta_CV (k := 11) (a := 0) (b := r9) (d := r16) hL hV8
            have hgl : (gl (fN 23 0 0 A B fZ)).2 = (gl A).2 + (2 + ((gl B).2 + 2)) := by rw [gl_N]; rfl
            refine wp_s ⟨fun e h' => (by rw [← hres] at h'; cases h'), fun A1 tk1 c1' ms1 h' => ?_⟩
            rw [← hres] at h'
            cases h'
            refine ⟨s5 + 1, ⟨?_, ?_, ?_⟩, fSt_trans hF08 (fX_T (nn := G.2.2.2.2 + L.2.2) hF9) (by omega) (by omega) (Nat.le_refl _), crp_2 (k := 23) hL.1 (by have := hL.2.1; omega) (by omega) (by omega) (by omega) hcA8 hcB8, ⟨_, _, _, _, _, _, rfl⟩, ?_, ?_, by omega, hms5, nx_ta⟩
            · rw [hgl, show p + ((gl A).2 + (2 + ((gl B).2 + 2))) = p + (gl A).2 + 2 + (gl B).2 + 2 by omega]
              exact hV9
            · rw [taS_I (by omega)]; exact h88
            · rw [taS_I (by omega)]; exact h98
            · rw [gn_N]
              show cdC ln q _ p ((gn st (nI np) A).2 p ++ ([31, nI (p + ((gn st (nI np) A).2 p).length + 2 + ((gn st (nI np) B).2 (p + ((gn st (nI np) A).2 p).length + 2)).length + 2)] ++ ((gn st (nI np) B).2 (p + ((gn st (nI np) A).2 p).length + 2) ++ [30, nI p])))
              rw [hlen, hlB]
              have row9 : ∀ i, zA (taS s8 q s5 11 0 r9 r16) (q + 36) i = zA u (q + 36) i := fun i => ((fX_ta (q := q) (s := s5) (p := i + 1) (t := 0) (s' := s5) (τ := s8) (u := s8) (k := 11) (a := 0) (b := r9) (c := r16) fX_refl (Nat.le_refl _) hL.1).2.2.2.1 (q + 36) i (by unfold eA; omega)).trans (hrow8 i)
              have rowlo : ∀ (p1 : Nat) (l : List Int32), (p1 + l.length ≤ p + (gl A).2 + 1 ∨ p + (gl A).2 + 2 ≤ p1) → cdC ln q s6 p1 l → cdC ln q (taS s8 q s5 11 0 r9 r16) p1 l := by
                intro p1 l hpl hcl hl j v hj
                have hjl : j < l.length := by
                  by_cases e : j < l.length
                  · exact e
                  · rw [List.getElem?_eq_none (by omega)] at hj; cases hj
                rw [row9, u3 _ _ (by omega)]
                exact hcl hl j v hj
              refine cdC_app (rowlo _ _ (by omega) hcdA6) ?_
              rw [hlen]
              refine cdC_app (l := [31, nI (p + (gl A).2 + 2 + (gl B).2 + 2)]) ?_ ?_
              · refine cdC_set (l := [31]) (σ := s6) (h := p + (gl A).2 + 1) (w := 0) rfl hcd46 (fun e => (row9 _).trans (u2 e)) (fun i h1 h2 => (row9 _).trans (u3 _ _ (by omega)))
              · show cdC ln q _ (p + (gl A).2 + 2) _
                refine cdC_app (rowlo _ _ (by omega) hcdB6) ?_
                rw [hlB]
                exact rowlo _ _ (by omega) hcd6
            · rw [hgl]
              exact ⟨hB5.1, hB5.2.1, b3, b4, by omega, by omega⟩
      · intro e z hcm he0 hE
        rw [hcm, xb_e] at hres
        exact dbr e z hres.symm he0 hE.1 (fR_trans (fX_R hq hF01) hE.2)
    · intro e z hfo he0 hE
      rw [hfo, xb_e] at hres
      rw [comeD hE.1, obd_s]
      exact dbr e z hres.symm he0 hE.1 (fR_trans (fX_R hq hF0) hE.2)
  · intro e z hen he0 hE
    rw [hen, xb_e] at hres
    refine wp_obd (wp_mono (takeD hL.1 hE.1) (fun _ u hu => ?_))
    rw [comeD hu.1, obd_s]
    exact dbr e u hres.symm he0 hu.1 (fR_trans hE.2 hu.2)
end
