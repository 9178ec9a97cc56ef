/-! THE CLASS: if, whole -/
section
variable {ln : Nat → Nat} {N M q cc : Nat} {x : Nat → Int32} {n tc : Nat} {G : gE} {L : lE} {np : Nat} {fnd st : Nat → Int32} {tk : yTok} {c ns s p D pl ms : Nat} {σ τ : zSt}
theorem ifC {K : zSt → Option (Int32 × zSt)} {R : ySrec} (hL : LN ln q cc) (hn : n ≤ 512) (hN : 5000 ≤ N) (hM : 43 ≤ M) (hG : G.2.2.2.2 + L.2.2 ≤ tk.2.1) (hgs : gSr G) (hst : ∀ g, g < G.2.2.2.2 → G.2.1 g = 2 → G.2.2.1 g = st g) (hKv : KSv ln q x n tc G np fnd st R K) (hKS : KSD ln q K) (h : SVc ln q x n tc G np fnd L tk c ns s p pl ms σ) (hB : CB n tc tk c ns s p D) (hP : p ≤ 4 + 20 * (s + D)) (hpm : pl ≤ tk.2.1) (hms : ms ≤ tk.2.1) (hk : tk.2.2.1 = 43) (h0 : yIf x n tc G R ns L pl ms tk c ≠ .error 0) :
    wp (fX6_choice ln N M K σ) (SQ ln q x n tc G np fnd st L tk ns s p D pl (SBc ns) σ (yIf x n tc G R ns L pl ms tk c)) := by
  obtain ⟨h, h8, h9⟩ := h
  have hq := hL.1
  have hB0 := hB
  obtain ⟨b1, b2, b3, b4, b5, b6⟩ := hB
  have hp1 := b1.1
  have hp2 := b1.2.1
  have hlt := tk_ne b1 hk (by decide)
  have hnl := h.1.1.2.1
  have hSB := (SB_ge (ns := ns)).1
  have hcc : ln (q + 36) ≤ 4096 := by have := hL.2.2.2.2.2.2.2.2.2.2.2; omega
  generalize hres : yIf x n tc G R ns L pl ms tk c = res at h0 ⊢
  unfold yIf at hres
  obtain ⟨M', rfl⟩ : ∃ g, M = g + 1 := ⟨M - 1, by omega⟩
  have hKD := expD (N := N) (M := M' + 1) (d := M') hL hN
  have dW : ∀ e b z r, res = .error e → e ≠ 0 → DS ln q e b z → b + 12 ≤ SBc ns → b < 2 ^ 27 → fR q σ z → wp (tlI1 ln N (M' + 1) K r z) (SQ ln q x n tc G np fnd st L tk ns s p D pl (SBc ns) σ res) := fun e b z r hr he hd hb hb2 hf => wp_mono (TD_I1 hL hKS e b r z (by omega) hd) (fun r y hy => SQ_e hr he hy.1 (fR_trans hf hy.2) (by omega))
  have dbr : ∀ e z, res = .error e → e ≠ 0 → DS ln q e 11000 z → fR q σ z → wp (obd (fX2_bracketed ln N (M' + 1) (fX2_expression ln N (M' + 1) (M' + 1)) z) (fun r9 σ10 => tlI1 ln N (M' + 1) K r9 σ10)) (SQ ln q x n tc G np fnd st L tk ns s p D pl (SBc ns) σ res) := by
    intro e z hr he hd hf
    refine wp_obd (wp_mono (bkD hL hKD hd) (fun r u hu => ?_))
    exact dW e _ u r hr he hu.1 (by omega) (by omega) (fR_trans hf hu.2)
  show wp (obd (fX1_enter ln N (M' + 1) σ) (fun _ σ2 => obd (fX1_takeCells ln N (M' + 1) (zI σ2 1 4) σ2) (fun _ σ4 => obd (fX7_come ln N (M' + 1) σ4) (fun _ z => obd (fX2_bracketed ln N (M' + 1) (fX2_expression ln N (M' + 1) (M' + 1)) z) (fun r9 σ10 => tlI1 ln N (M' + 1) K r9 σ10))))) _
  refine stEnter (D := D) hL hn (by omega) (by omega) h hB0 ?_ ?_
  · intro y hen hV0 hF0 hBz
    rw [hen, xb_k] at hres
    have hns := ne_kk hen
    have hE1 : EBc (ns + 1 + 1) + 20 ≤ SBc ns := by unfold SBc EBc; omega
    have hS1 : SBc (ns + 1) + 50 ≤ SBc ns := by unfold SBc; omega
    revert hV0 hF0
    generalize zsI σ 3 4 (nI (ns + 1)) = s0
    intro hV0 hF0
    rw [hV0.2.1.2.1]
    refine stTake (D := D) hL hn (by omega) (by omega) (by omega) hV0 hBz ?_ ?_
    · intro c1 hfo hV1 hF1 hB1
      rw [hfo, xb_k] at hres
      have hF01 := fX_trans hF0 hF1 (Nat.le_refl _) (Nat.le_refl _) (Nat.le_refl _)
      revert hV1 hF01
      generalize zsI s0 3 3 (nI (tc - c1)) = s1
      intro hV1 hF01
      refine stCome (D := D) hL hn hN (by omega) (by omega) hV1 hB1 ?_ ?_
      · intro t1 hcm hV2 hF2 hB2 hpl2
        rw [hcm, xb_k] at hres
        have hF12 := fX_trans hF01 hF2 (Nat.le_refl _) (Nat.le_refl _) (Nat.le_refl _)
        have hq1 := hB2.1.1
        revert hV2 hF12
        generalize cS x n tk.1 s1 = s2
        intro hV2 hF12
        refine wp_obd (wp_mono (brC (ns := ns + 1) (D := D + 1) (st := st) hL hn hN (show G.2.2.2.2 + L.2.2 ≤ n by omega) (by omega) (by omega) (expC hL hn hN (by omega) hgs hst 42 M' (by omega)) hKD hV2 ⟨hB2.1, hB2.2.1, b3, hB2.2.2.2.1, by omega, b6⟩ (by omega) (fun w => h0 (by rw [← hres, w]; rfl))) (fun r9 z hz => ?_))
        cases hr : yBr x n (yE x n tc G L 42) (ns + 1) t1 c1 with
        | error e =>
          obtain ⟨he0, hd, hf⟩ := hz.1 e hr
          rw [hr, xb_e] at hres
          exact dW e _ z r9 hres.symm he0 hd (by omega) (by unfold EBc; omega) (fR_trans (fX_R hq hF12) hf)
        | ok v =>
          obtain ⟨A, tk', c'⟩ := v
          rw [hr, xb_k] at hres
          obtain ⟨s3, hV3, hF3, hc3, hnd3, hcd3, hB3, hP3, hlt3⟩ := hz.2 A tk' c' hr
          have hcA := (crp_cnt A).1 _ _ _ hc3
          have hgA := gl_le A
          have hlen := (gn_len st (nI np) A).2 p
          have hF03 := fX_trans hF12 hF3 (Nat.le_refl _) (Nat.le_refl _) (Nat.le_refl _)
          have hq6 := hB3.1.1
          have hq7 := hB3.1.2.1
          have hq8 := hB3.2.2.2.2.1
          have hpz := hB3.2.2.2.2.2
          unfold tlI1
          rw [rbC hL.1 hV3.1.2.1.2.2.2.2, addC2 hcc hV3.2.2.2.2.2.2.1 (by omega), obd_s]
          obtain ⟨hV4, hF4⟩ := ck_CV (l := [31, 0]) hL hV3
          have hcd4 := ckS_cd (ln := ln) (q := q) (p := p + (gl A).2) (σ := z) (l := [31, 0])
          have hc4 := crp_fX hL.1 hF4 (Nat.le_refl _) hc3
          have hcdA4 := cdC_fX hL.1 hF4 (by omega) hcd3
          have hF04 := fX_trans hF03 hF4 (by omega) (by omega) (Nat.le_refl _)
          have h84 : zI (ckS ln q z (p + (gl A).2) [31, 0]) 2 8 = nI pl := (hF04.1 2 8 (by unfold eI; omega)).trans h8
          have h94 : zI (ckS ln q z (p + (gl A).2) [31, 0]) 2 9 = nI ms := (hF04.1 2 9 (by unfold eI; omega)).trans h9
          revert hV4 hcd4 hc4 hcdA4 hF04 h84 h94
          generalize ckS ln q z (p + (gl A).2) [31, 0] = s4
          intro hV4 hcd4 hc4 hcdA4 hF04 h84 h94
          rw [rbC hL.1 hV4.1.2.1.2.2.2.2, bnd_e, hV4.2.2.2.2.2.2.1, show p + (gl A).2 + ([31, 0] : List Int32).length = (p + (gl A).2 + 1) + 1 from rfl, nI_pred]
          have hV4' : CV ln q x n tc G L np fnd (-1) tk' c' (ns + 1) s3 (p + (gl A).2 + 2) 0 s4 := hV4
          refine wp_obd (wp_mono (hKv (ns + 1) L pl ms tk' c' s3 (p + (gl A).2 + 2) (D + 1) s4 ⟨hV4', h84, h94⟩ ⟨hB3.1, hB3.2.1, b3, hB3.2.2.2.1, hq8, by omega⟩ (by omega) (by omega) (by omega) (by omega) (fun w => h0 (by rw [← hres, w]; rfl))) (fun r16 y hy => ?_))
          cases hr2 : R (ns + 1) L pl ms tk' c' with
          | error e =>
            obtain ⟨he0, hd, hf⟩ := hy.1 e hr2
            rw [show ((A, tk', c') : fT × yTok × Nat).2.1 = tk' from rfl, show ((A, tk', c') : fT × yTok × Nat).2.2 = c' from rfl, hr2, xb_e] at hres
            exact wp_mono (TD_I2 hL e _ r16 y hd) (fun r z hz => SQ_e hres.symm he0 hz.1 (fR_trans (fX_R hq hF04) (fR_trans hf hz.2)) (by omega))
          | ok v2 =>
            obtain ⟨B, tk2, c2, ms2⟩ := v2
            rw [show ((A, tk', c') : fT × yTok × Nat).2.1 = tk' from rfl, show ((A, tk', c') : fT × yTok × Nat).2.2 = c' from rfl, hr2, xb_k] at hres
            obtain ⟨s5, ⟨hV5, h85, h95⟩, hF5, hc5, hnd5, hcd5, hB5, hlt5, hms5, -⟩ := hy.2 B tk2 c2 ms2 hr2
            have hcA5 := crp_fSt hq hF5 (Nat.le_refl _) hc4
            have hcdA5 := cdC_fSt hq hF5 (by omega) hcdA4
            have hcd45 := cdC_fSt hq hF5 (Nat.le_refl _) hcd4
            have hF05 := fSt_trans (fX_T (nn := G.2.2.2.2 + L.2.2) hF04) hF5 (by omega) (by omega) (Nat.le_refl _)
            exact ifT (c0 := 0) hL hn hN (by omega) hKv hKS ⟨hV5, h85, h95⟩ hB5 hP (by omega) (by omega) hF05 hcA5 hc5 hcdA5 hcd45 hcd5 (by omega) hres.symm h0
      · intro e z hcm he0 hE
        rw [hcm, xb_e] at hres
        exact dbr e z hres.symm he0 hE.1 (fR_trans (fX_R hq hF01) hE.2)
    · intro e z hfo he0 hE
      rw [hfo, xb_e] at hres
      rw [comeD hE.1, obd_s]
      exact dbr e z hres.symm he0 hE.1 (fR_trans (fX_R hq hF0) hE.2)
  · intro e z hen he0 hE
    rw [hen, xb_e] at hres
    refine wp_obd (wp_mono (takeD hL.1 hE.1) (fun _ u hu => ?_))
    rw [comeD hu.1, obd_s]
    exact dbr e u hres.symm he0 hu.1 (fR_trans hE.2 hu.2)
end
