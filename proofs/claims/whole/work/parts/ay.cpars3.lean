/-! THE CLASS: parameters, the loop -/
def yPe (x : Nat → Int32) (n : Nat) (y : Except Int32 (lE × yTok)) : Except Int32 (lE × yTok) := xb y (fun u => xb (need 50 u.2) (fun _ => xb (cm x n u.2) (fun t5 => .ok (u.1, t5))))
section
variable {ln : Nat → Nat} {N M q cc : Nat} {x : Nat → Int32} {n tc : Nat} {G : gE} {L L0 : lE} {np : Nat} {fnd st : Nat → Int32} {mu : Int32} {tk : yTok} {c ns s p t D pl ms : Nat} {σ τ : zSt}
theorem pm30C {tk0 : yTok} (hL : LN ln q cc) (hn : n ≤ 512) (hN : 5000 ≤ N) : ∀ (f m i : Nat) (L : lE) (tk : yTok) (σ : zSt) (res : Except Int32 (lE × yTok)), G.2.2.2.2 + L.2.2 ≤ tk.2.1 → L.2.2 ≤ 8 → CV ln q x n tc G (lIx L) np fnd (-1) tk c (ns + 1) s p 0 σ → CB n tc tk c (ns + 1) s p D → fPm q G.2.2.2.2 τ σ → tk0.2.1 ≤ tk.2.1 → i ≤ tk.2.1 → n + 2 ≤ m + i → res = yPe x n (yPars x n f L tk) → res ≠ .error 0 →
    wp (fX6_parameters_b30 ln N M m (nI G.2.2.2.2) (nI L.2.2) (nI i) σ) (PMq ln q x n tc G fnd tk0 c ns s p D τ res) := by
  intro f
  induction f with
  | zero => intro m i L tk σ res _ _ _ _ _ _ _ _ hres h0; exact absurd hres h0
  | succ f ih =>
    intro m i L tk σ res hG h8 h hB hF hlt0 hi hm hres h0
    have hB2 := hB
    obtain ⟨b1, b2, b3, b4, b5, b6⟩ := hB
    have hp1 := b1.1
    have hp2 := b1.2.1
    have hnl := h.1.1.2.1
    have hq := hL.1
    have hGn : G.2.2.2.2 + (lIx L).2.2 ≤ n := by show G.2.2.2.2 + L.2.2 ≤ n; omega
    obtain ⟨m, rfl⟩ : ∃ g, m = g + 1 := ⟨m - 1, by omega⟩
    rw [fX6_parameters_b30, h.1.1.1, if_neg (fun w => by rw [nI_ltI (by omega) (by omega)] at w; omega)]
    rw [yPars_s] at hres
    unfold yPe at hres
    -- dead behind the word int
    have dead : ∀ e z, res = .error e → e ≠ 0 → DS ln q e 11000 z → fR q τ z → wp (obd (fX6_parameter ln N M (nI G.2.2.2.2) (nI L.2.2) z) (fun _ σ19 => bnd (nI L.2.2 + (1 : Int32)) (fun x20 => if (zI σ19 1 3) = (55 : Int32) then obd (fX7_come ln N M σ19) (fun _ σ22 => bnd (nI i + (1 : Int32)) (fun x23 => fX6_parameters_b30 ln N M m (nI G.2.2.2.2) x20 x23 σ22)) else fX6_parameters_b87 ln N M (nI G.2.2.2.2) x20 σ19))) (PMq ln q x n tc G fnd tk0 c ns s p D τ res) := by
      intro e z hr he hd hf
      refine wp_obd (wp_mono (parmD hL hd) (fun _ u hu => ?_))
      rw [bnd_e, show nI L.2.2 + (1 : Int32) = nI (L.2.2 + 1) from nI_add _ 1, hu.1.2.2.1, if_neg (by decide)]
      exact wp_mono (pm87D hL hN (by omega) hu.1) (fun r y hy => PMq_e hr he hy.1 (fR_trans hf (fR_trans hu.2 hy.2)))
    unfold fX7_pass
    refine wp_obd ?_
    refine stNeed (D := D) (k := 42) hL hn hGn (by omega) h hB2 ?_ ?_
    · intro y hnd
      rw [hnd, xb_k] at hres
      have hk := need_kk hnd
      have hlt := tk_ne b1 hk (by decide)
      refine stCome (D := D) hL hn hN hGn (by omega) h hB2 ?_ ?_
      · intro t1 hcm hV1 hF1 hB1 hpl1
        rw [hcm, xb_k] at hres
        have hG1 : fPm q G.2.2.2.2 τ (cS x n tk.1 σ) := fPm_trans hF cS_Pm
        revert hV1 hG1
        generalize cS x n tk.1 σ = u1
        intro hV1 hG1
        have hq1 := hB1.1.1
        have hq2 := hB1.1.2.1
        refine wp_s ?_
        refine parmC (D := D) hL hn hN (by omega) (by omega) h8 hV1 hB1 ?_ ?_
        · intro t2 z hy hk40 hV2 hF2 hB2 hlt2 h82
          rw [hy, xb_k] at hres
          have hG2 := fPm_trans hG1 hF2
          have hq3 := hB2.1.1
          have hq4 := hB2.1.2.1
          rw [bnd_e, show nI L.2.2 + (1 : Int32) = nI (L.2.2 + 1) from nI_add _ 1, hV2.2.1.2.2.1]
          by_cases k55 : t2.2.2.1 = 55
          · rw [if_pos k55] at hres ⊢
            have hlt3 := tk_ne hB2.1 k55 (by decide)
            refine stCome (D := D) hL hn hN (show G.2.2.2.2 + (L.2.2 + 1) ≤ n by omega) (by omega) hV2 hB2 ?_ ?_
            · intro t3 hcm3 hV3 hF3 hB3 hpl3
              rw [hcm3, xb_k] at hres
              rw [bnd_e, nI_1]
              exact ih m (i + 1) (lAdd L t1.2.2.2 0) t3 _ res (show G.2.2.2.2 + (L.2.2 + 1) ≤ _ by omega) h82 hV3 hB3 (fPm_trans hG2 cS_Pm) (by omega) (by omega) (by omega) hres h0
            · intro e y hcm3 he0 hE
              rw [hcm3, xb_e, xb_e] at hres
              rw [bnd_e]
              exact wp_mono (pm30D (N := N) (M := M) (k := L.2.2 + 1) (m := m) (x1 := nI G.2.2.2.2) (x3 := nI i + 1) hL hN (by omega) (by omega) hE.1) (fun r w hw => PMq_e hres he0 hw.1 (fR_trans (fPm_R hq hG2) (fR_trans hE.2 hw.2)))
          · rw [if_neg k55] at hres ⊢
            rw [xb_k] at hres
            exact pm87C (tk0 := tk0) (L := lAdd L t1.2.2.2 0) hL hn hN (show G.2.2.2.2 + (L.2.2 + 1) ≤ _ by omega) h82 hV2 hB2 hG2 (by omega) hres
        · intro e z hy he0 hE
          rw [hy, xb_e, xb_e] at hres
          rw [bnd_e, show nI L.2.2 + (1 : Int32) = nI (L.2.2 + 1) from nI_add _ 1, hE.1.2.2.1, if_neg (by decide)]
          exact wp_mono (pm87D hL hN (by omega) hE.1) (fun r y hy => PMq_e hres he0 hy.1 (fR_trans (fPm_R hq hG1) (fR_trans hE.2 hy.2)))
      · intro e z hcm he0 hE
        rw [hcm, xb_e, xb_e] at hres
        exact wp_s (dead e z hres he0 hE.1 (fR_trans (fPm_R hq hF) hE.2))
    · intro e z hnd he0 hE
      rw [hnd, xb_e, xb_e] at hres
      rw [comeD hE.1, obd_s]
      exact wp_s (dead e z hres he0 hE.1 (fR_trans (fPm_R hq hF) hE.2))
/-- from the opening bracket on -/
theorem parsC {res : Except Int32 (lE × yTok)} (hL : LN ln q cc) (hn : n ≤ 512) (hN : 5000 ≤ N) (hns : ns < 40) (hG : G.2.2.2.2 ≤ tk.2.1) (h : CV ln q x n tc G (fun _ => 0, fun _ => 0, 0) np fnd (-1) tk c ns s p 0 σ) (hB : CB n tc tk c ns s p D) (hk : tk.2.2.1 = 49)
    (hres : res = xb (cm x n tk) (fun t3 => yPe x n (if t3.2.2.1 = 50 then .ok ((fun _ => 0, fun _ => 0, 0), t3) else yPars x n (n + 2) (fun _ => 0, fun _ => 0, 0) t3))) (h0 : res ≠ .error 0) :
    wp (fX6_parameters ln N M (nI G.2.2.2.2) σ) (PMq ln q x n tc G fnd tk c ns s p D σ res) := by
  have hB2 := hB
  obtain ⟨b1, b2, b3, b4, b5, b6⟩ := hB
  have hp1 := b1.1
  have hp2 := b1.2.1
  have hlt := tk_ne b1 hk (by decide)
  have hq := hL.1
  unfold fX6_parameters
  refine stEnter (D := D) hL hn (show G.2.2.2.2 + 0 ≤ n by omega) (by omega) h hB2 ?_ ?_
  · intro y hen hV1 hF1 hB1
    have hG1 : fPm q G.2.2.2.2 σ (zsI σ 3 4 (nI (ns + 1))) := fPm_I (Or.inl (by unfold eI; omega))
    revert hV1 hG1
    generalize zsI σ 3 4 (nI (ns + 1)) = u1
    intro hV1 hG1
    refine stCome (D := D) hL hn hN (show G.2.2.2.2 + 0 ≤ n by omega) (by omega) hV1 hB1 ?_ ?_
    · intro t3 hcm hV2 hF2 hB2 hpl2
      rw [hcm, xb_k] at hres
      have hG2 : fPm q G.2.2.2.2 σ (cS x n tk.1 u1) := fPm_trans hG1 cS_Pm
      have hV2' : CV ln q x n tc G (lIx (fun _ => 0, fun _ => 0, 0)) np fnd (-1) t3 c (ns + 1) s p 0 (cS x n tk.1 u1) := CV_c (L := (fun _ => 0, fun _ => 0, 0)) (L' := lIx (fun _ => 0, fun _ => 0, 0)) rfl (fun j hj => absurd hj (Nat.not_lt_zero _)) hV2
      revert hV2' hG2 hV2
      generalize cS x n tk.1 u1 = u2
      intro hV2 hG2 hV2'
      rw [bnd_e, hV2.2.1.2.2.1]
      by_cases k50 : t3.2.2.1 = 50
      · rw [if_pos k50] at hres ⊢
        unfold yPe at hres
        rw [xb_k] at hres
        exact pm87C (L := (fun _ => 0, fun _ => 0, 0)) hL hn hN (show G.2.2.2.2 + 0 ≤ _ by omega) (by show 0 ≤ 8; omega) hV2' hB2 hG2 (by omega) hres
      · rw [if_neg k50] at hres ⊢
        rw [bnd_e]
        exact pm30C hL hn hN (n + 2) N 0 (fun _ => 0, fun _ => 0, 0) t3 u2 res (show G.2.2.2.2 + 0 ≤ _ by omega) (by show 0 ≤ 8; omega) hV2' hB2 hG2 (by omega) (by omega) (by omega) hres h0
    · intro e z hcm he0 hE
      rw [hcm, xb_e] at hres
      rw [bnd_e, hE.1.2.2.1, if_neg (by decide), bnd_e]
      exact wp_mono (pm30D (k := 0) hL hN (by omega) (by omega) hE.1) (fun r w hw => PMq_e hres he0 hw.1 (fR_trans (fPm_R hq hG1) (fR_trans hE.2 hw.2)))
  · intro e z hen he0 hE
    exfalso
    unfold ne at hen
    rw [if_neg (by omega)] at hen
    cases hen
end
