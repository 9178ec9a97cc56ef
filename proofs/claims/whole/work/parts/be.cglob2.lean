/-! THE CLASS: a GLOBAL, whole -/
def yGl (x : Nat → Int32) (n : Nat) (tk : yTok) : Except Int32 (Int32 × yTok) := xb (if tk.2.2.1 = 53 then ySize x n tk else .ok (1, tk)) (fun u => xb (need 56 u.2) (fun _ => xb (cm x n u.2) (fun t6 => .ok (u.1, t6))))
section
variable {ln : Nat → Nat} {N M q cc : Nat} {x : Nat → Int32} {n tc : Nat} {G : gE} {np : Nat} {fnd st : Nat → Int32} {tk : yTok} {c s p D gs : Nat} {σ τ u : zSt}
theorem globC {w : Int64} (hL : LN ln q cc) (hn : n ≤ 512) (hN : 5000 ≤ N) {tk0 : yTok} (hG : G.2.2.2.2 ≤ tk0.2.1) (hlt0 : tk0.2.1 < tk.2.1) (h : CV ln q x n tc G lNo np fnd (-1) tk c 0 s p 0 σ) (hB : CB n tc tk c 0 s p D) (hgs : zI σ q 2 = nI gs) :
    wp (fX6_global ln N M w σ) (fun _ z => GLq ln q x n tc G fnd w (if tk.2.2.1 = 53 then 1 else 0) gs tk0 c np s p D σ (yGl x n tk) z) := by
  have hq := hL.1
  have hB2 := hB
  obtain ⟨b1, b2, b3, b4, b5, b6⟩ := hB
  have hp1 := b1.1
  have hp2 := b1.2.1
  generalize hres : yGl x n tk = res
  unfold yGl at hres
  unfold fX6_global
  rw [bnd_e, bnd_e, h.2.1.2.2.1]
  by_cases k53 : tk.2.2.1 = 53
  · rw [if_pos k53] at hres ⊢
    rw [if_pos k53, bnd_e]
    have hlt := tk_ne b1 k53 (by decide)
    have hdead : ∀ e z, res = .error e → e ≠ 0 → DS ln q e 11000 z → fR q σ z → ∀ r, wp (obd (fX7_pass ln N M 41 z) (fun _ σ16 => obd (fX7_pass ln N M 54 σ16) (fun _ σ18 => fX6_global_b50 ln N M w 1 r σ18))) (fun _ z => GLq ln q x n tc G fnd w 1 gs tk0 c np s p D σ res z) := by
      intro e z hr he hd hf r
      rw [passD hd, obd_s, passD hd, obd_s]
      exact wp_mono (gl50D hL hd) (fun _ y hy => GLq_e hr he hy.1 (fR_trans hf hy.2))
    unfold ySize at hres
    refine stCome (D := D) hL hn hN (show G.2.2.2.2 + 0 ≤ n by omega) (by omega) h hB2 ?_ ?_
    · intro t3 hcm hV1 hF1 hB1 hpl1
      rw [hcm, xb_k] at hres
      have hG1 : fPm q G.2.2.2.2 σ (cS x n tk.1 σ) := cS_Pm
      revert hV1 hG1
      generalize cS x n tk.1 σ = u1
      intro hV1 hG1
      have hq1 := hB1.1.1
      have hq2 := hB1.1.2.1
      unfold fX6_arraySize fX6_arraySize_b40
      rw [hV1.2.1.2.2.1]
      by_cases k41 : t3.2.2.1 = 41
      · have hlt1 := tk_ne hB1.1 k41 (by decide)
        rw [show need 41 t3 = .ok () by unfold need; rw [if_pos k41], xb_k] at hres
        rw [if_pos k41, hV1.2.1.2.2.2.2 k41]
        have bad : (t3.2.2.2 < 1 ∨ 1000 < t3.2.2.2) → wp (obd (obd (fX7_failHere ln N M 11 u1) (fun _ σ2 => some ((0 : Int32), σ2))) (fun r13 σ14 => obd (fX7_pass ln N M 41 σ14) (fun _ σ16 => obd (fX7_pass ln N M 54 σ16) (fun _ σ18 => fX6_global_b50 ln N M w 1 r13 σ18)))) (fun _ z => GLq ln q x n tc G fnd w 1 gs tk0 c np s p D σ res z) := by
          intro hb
          rw [if_pos hb] at hres
          have he0 : (11 : Int32) + 16 * nI t3.2.1 ≠ 0 := er_ne ⟨11, by omega, by omega, rfl⟩ (by omega)
          rw [failHL hV1.2.2.1, hV1.2.1.2.1, obd_s, obd_s]
          have hE := CV_ER (k := 0) hL hn (show G.2.2.2.2 + 0 ≤ n by omega) (by omega) hV1 hB1 he0
          exact hdead _ _ hres.symm he0 hE.1 (fR_trans (fPm_R hq hG1) hE.2) 0
        by_cases c1 : t3.2.2.2 < 1
        · rw [if_pos ((lg_cmp_lt _ _).mpr c1)]
          exact bad (Or.inl c1)
        · rw [if_neg (fun z => c1 ((lg_cmp_lt _ _).mp z))]
          by_cases c2 : (1000 : Int64) < t3.2.2.2
          · rw [if_neg (fun z => Int64.not_le.mpr c2 ((lg_cmp_le _ _).mp z))]
            exact bad (Or.inr c2)
          · rw [if_pos ((lg_cmp_le _ _).mpr (Int64.not_lt.mp c2)), obd_s]
            rw [if_neg (fun z => by rcases z with z | z; exact c1 z; exact c2 z)] at hres
            unfold fX7_pass
            refine wp_obd ?_
            refine stNeed (D := D) (k := 41) hL hn (show G.2.2.2.2 + 0 ≤ n by omega) (by omega) hV1 hB1 ?_ ?_
            · intro y hnd
              refine stCome (D := D) hL hn hN (show G.2.2.2.2 + 0 ≤ n by omega) (by omega) hV1 hB1 ?_ ?_
              · intro t4 hcm4 hV2 hF2 hB2 hpl2
                rw [hcm4, xb_k] at hres
                have hG2 : fPm q G.2.2.2.2 σ (cS x n t3.1 u1) := fPm_trans hG1 cS_Pm
                revert hV2 hG2
                generalize cS x n t3.1 u1 = u2
                intro hV2 hG2
                have hq3 := hB2.1.1
                have hq4 := hB2.1.2.1
                refine wp_s ?_
                refine wp_obd ?_
                refine stNeed (D := D) (k := 54) hL hn (show G.2.2.2.2 + 0 ≤ n by omega) (by omega) hV2 hB2 ?_ ?_
                · intro y hnd4
                  rw [hnd4, xb_k] at hres
                  refine stCome (D := D) hL hn hN (show G.2.2.2.2 + 0 ≤ n by omega) (by omega) hV2 hB2 ?_ ?_
                  · intro t5 hcm5 hV3 hF3 hB3 hpl3
                    rw [hcm5, xb_k, xb_k] at hres
                    have hG3 : fPm q G.2.2.2.2 σ (cS x n t4.1 u2) := fPm_trans hG2 cS_Pm
                    exact wp_s (gl50C hL hn hN hG (by omega) (by decide) hV3 hB3 hG3 hgs hres.symm)
                  · intro e z hc he0 hE
                    rw [hc, xb_e, xb_e] at hres
                    exact wp_s (wp_mono (gl50D hL hE.1) (fun _ y hy => GLq_e hres.symm he0 hy.1 (fR_trans (fPm_R hq hG2) (fR_trans hE.2 hy.2))))
                · intro e z hc he0 hE
                  rw [hc, xb_e, xb_e] at hres
                  rw [comeD hE.1, obd_s]
                  exact wp_s (wp_mono (gl50D hL hE.1) (fun _ y hy => GLq_e hres.symm he0 hy.1 (fR_trans (fPm_R hq hG2) (fR_trans hE.2 hy.2))))
              · intro e z hc he0 hE
                rw [hc, xb_e, xb_e] at hres
                refine wp_s ?_
                rw [needD hE.1, obd_s, comeD hE.1, obd_s, obd_s]
                exact wp_mono (gl50D hL hE.1) (fun _ y hy => GLq_e hres.symm he0 hy.1 (fR_trans (fPm_R hq hG1) (fR_trans hE.2 hy.2)))
            · intro e z hc he0 hE
              exfalso
              exact (need_ee hc).2 k41
      · rw [if_neg k41, obd_s]
        have hnd : need 41 t3 = er 2 t3.2.1 := by unfold need; rw [if_neg k41]
        have he0 : (2 : Int32) + 16 * nI t3.2.1 ≠ 0 := er_ne ⟨2, by omega, by omega, rfl⟩ (by omega)
        rw [hnd] at hres
        unfold fX7_pass fX7_need
        rw [hV1.2.1.2.2.1, if_neg k41, failHL hV1.2.2.1, hV1.2.1.2.1, obd_s, obd_s]
        have hE := CV_ER (k := 0) hL hn (show G.2.2.2.2 + 0 ≤ n by omega) (by omega) hV1 hB1 he0
        rw [comeD hE.1, obd_s, obd_s]
        have := hdead _ _ hres.symm he0 hE.1 (fR_trans (fPm_R hq hG1) hE.2) 0
        rw [passD hE.1, obd_s] at this
        exact this
    · intro e z hcm he0 hE
      rw [hcm, xb_e, xb_e] at hres
      unfold fX6_arraySize
      rw [hE.1.2.2.1, if_neg (by decide), obd_s]
      exact hdead e z hres.symm he0 hE.1 hE.2 0
  · rw [if_neg k53] at hres ⊢
    rw [if_neg k53]
    rw [xb_k] at hres
    exact gl50C hL hn hN hG hlt0 (by decide) h hB2 fPm_refl hgs hres.symm
end
