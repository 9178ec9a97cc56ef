/-! THE CLASS: parameters, whole -/
def yParm (x : Nat → Int32) (n : Nat) (L : lE) (tk : yTok) : Except Int32 yTok := xb (need 40 tk) (fun _ => if (lkN L.1 tk.2.2.2 L.2.2).isSome = true then er 4 tk.2.1 else if 8 ≤ L.2.2 then er 6 tk.2.1 else cm x n tk)
theorem yPars_s {x : Nat → Int32} {n f : Nat} {L : lE} {tk : yTok} : yPars x n (f + 1) L tk = xb (need 42 tk) (fun _ => xb (cm x n tk) (fun t1 => xb (yParm x n L t1) (fun t2 => if t2.2.2.1 = 55 then xb (cm x n t2) (fun t3 => yPars x n f (lAdd L t1.2.2.2 0) t3) else .ok (lAdd L t1.2.2.2 0, t2)))) := by
  rw [yPars]
  unfold yParm
  cases need 42 tk with
  | error e => rfl
  | ok y =>
    rw [xb_k, xb_k]
    cases cm x n tk with
    | error e => rfl
    | ok t1 =>
      rw [xb_k, xb_k]
      cases need 40 t1 with
      | error e => rfl
      | ok y =>
        rw [xb_k, xb_k]
        by_cases c1 : (lkN L.1 t1.2.2.2 L.2.2).isSome = true
        · rw [if_pos c1, if_pos c1]; rfl
        · rw [if_neg c1, if_neg c1]
          by_cases c2 : 8 ≤ L.2.2
          · rw [if_pos c2, if_pos c2]; rfl
          · rw [if_neg c2, if_neg c2]
theorem dup_0 {L : lE} {w : Int64} : dupL (lIx L) 0 w = (lkN L.1 w L.2.2).isSome := by
  unfold dupL lIx
  show (match lkN L.1 w L.2.2 with | some k => decide (0 ≤ k) | none => false) = _
  cases lkN L.1 w L.2.2 with
  | some k => rfl
  | none => rfl
section
variable {ln : Nat → Nat} {N M q cc : Nat} {x : Nat → Int32} {n tc : Nat} {G : gE} {L L0 : lE} {np : Nat} {fnd st : Nat → Int32} {mu : Int32} {tk : yTok} {c ns s p t D pl ms : Nat} {σ τ : zSt}
theorem parmC {β : Type} {Q : β → zSt → Prop} {f : Unit → zSt → Option (β × zSt)} (hL : LN ln q cc) (hn : n ≤ 512) (hN : 5000 ≤ N) (hG : G.2.2.2.2 + L.2.2 ≤ tk.2.1) (ht : t ≤ 512) (h8 : L.2.2 ≤ 8) (h : CV ln q x n tc G (lIx L) np fnd mu tk c ns s p t σ) (hB : CB n tc tk c ns s p D)
    (hok : ∀ t2 z, yParm x n L tk = .ok t2 → tk.2.2.1 = 40 → CV ln q x n tc G (lIx (lAdd L tk.2.2.2 0)) np fnd mu t2 c ns s p t z → fPm q G.2.2.2.2 σ z → CB n tc t2 c ns s p D → tk.2.1 < t2.2.1 → L.2.2 + 1 ≤ 8 → wp (f () z) Q)
    (her : ∀ e z, yParm x n L tk = .error e → e ≠ 0 → ER ln q σ e z → wp (f () z) Q) :
    wp (obd (fX6_parameter ln N M (nI G.2.2.2.2) (nI L.2.2) σ) f) Q := by
  have hB2 := hB
  obtain ⟨b1, b2, b3, b4, b5, b6⟩ := hB
  have hp1 := b1.1
  have hp2 := b1.2.1
  have hnl := h.1.1.2.1
  have hq := hL.1
  have hGn : G.2.2.2.2 + (lIx L).2.2 ≤ n := by show G.2.2.2.2 + L.2.2 ≤ n; omega
  refine wp_obd ?_
  unfold fX6_parameter
  rw [bnd_e, h.2.1.2.2.1]
  have dead : ∀ (k : Int32) (w : Int64), k + 16 * nI tk.2.1 ≠ 0 → yParm x n L tk = er k tk.2.1 → wp (obd (fX7_failHere ln N M k σ) (fun _ σ9 => fX6_parameter_b69 ln N M (nI L.2.2) w σ9)) (fun a b => wp (f a b) Q) := by
    intro k w he0 hy
    rw [failHL h.2.2.1, h.2.1.2.1, obd_s]
    have hE := CV_ER (k := 0) hL hn hGn ht h hB2 he0
    exact wp_mono (b69D hL hE.1) (fun _ y hy2 => her _ _ hy he0 ⟨hy2.1, fR_trans hE.2 hy2.2⟩)
  by_cases k40 : tk.2.2.1 = 40
  · have hlt := tk_ne b1 k40 (by decide)
    have hnd : need 40 tk = .ok () := by unfold need; rw [if_pos k40]
    have hy0 : yParm x n L tk = if (lkN L.1 tk.2.2.2 L.2.2).isSome = true then er 4 tk.2.1 else if 8 ≤ L.2.2 then er 6 tk.2.1 else cm x n tk := by unfold yParm; rw [hnd]; rfl
    obtain ⟨r, h1, h2⟩ := findF (N := N) (M := M) (bf := 0) (w := tk.2.2.2) hL hN (show G.2.2.2.2 + (lIx L).2.2 ≤ ln 15 by omega) (Nat.zero_le _) h.1.2.2.1
    rw [dup_0] at h2
    rw [if_pos k40, h.2.1.2.2.2.1 k40, show nI G.2.2.2.2 = nI (G.2.2.2.2 + 0) from rfl, h1, obd_s]
    by_cases cd : (lkN L.1 tk.2.2.2 L.2.2).isSome = true
    · rw [if_neg (fun w => by rw [h2.mp w] at cd; cases cd)]
      rw [if_pos cd] at hy0
      exact dead 4 _ (er_ne erK4 (by omega)) hy0
    · rw [if_pos (h2.mpr (by cases hh : (lkN L.1 tk.2.2.2 L.2.2).isSome; rfl; exact absurd hh cd))]
      rw [if_neg cd] at hy0
      by_cases c8 : 8 ≤ L.2.2
      · rw [if_neg (fun w => by rw [show (8 : Int32) = nI 8 from rfl, nI_ltI (by omega) (by omega)] at w; omega)]
        rw [if_pos c8] at hy0
        exact dead 6 _ (er_ne ⟨6, by omega, by omega, rfl⟩ (by omega)) hy0
      · rw [if_pos (show nI L.2.2 < (8 : Int32) from (nI_ltI (b := 8) (by omega) (by omega)).mpr (by omega))]
        rw [if_neg c8] at hy0
        unfold fX6_parameter_b69
        rw [nAddC (k := G.2.2.2.2 + L.2.2) hL (by omega) h.1.2.2.1.1, obd_s]
        have hV1 := na_CV (w := tk.2.2.2) (b := nI L.2.2) (d := 0) hL h
        rw [lIx_add] at hV1
        have hF1 : fPm q G.2.2.2.2 σ (naS σ (G.2.2.2.2 + L.2.2) tk.2.2.2 3 (nI L.2.2) 0) := ⟨fun o k a => naS_I (by omega), fun _ _ _ => rfl, fun _ _ => rfl, fun a i c1 => naS_A (by omega), fun a i c1 => by
          by_cases e : a = 16
          · subst e; exact naS_B (by omega)
          · unfold naS; rw [zB_I, zB_A, zB_A, zB_A, zB_A, zB_B, if_neg (by omega)]⟩
        have hV1' : CV ln q x n tc G (lIx (lAdd L tk.2.2.2 0)) np fnd mu tk c ns s p t (naS σ (G.2.2.2.2 + L.2.2) tk.2.2.2 3 (nI L.2.2) 0) := hV1
        revert hV1' hF1
        generalize naS σ (G.2.2.2.2 + L.2.2) tk.2.2.2 3 (nI L.2.2) 0 = u
        intro hF1 hV1'
        refine stCome (D := D) hL hn hN (show G.2.2.2.2 + (L.2.2 + 1) ≤ n by omega) ht hV1' hB2 ?_ ?_
        · intro t2 a1 a2 a3 a4 a5
          exact wp_s (hok t2 _ (hy0.trans a1) k40 a2 (fPm_trans hF1 cS_Pm) a4 (by omega) (by omega))
        · intro e z a1 a2 a3
          exact wp_s (her e z (hy0.trans a1) a2 ⟨a3.1, fR_trans (fPm_R hq hF1) a3.2⟩)
  · rw [if_neg k40]
    have hnd : need 40 tk = er 2 tk.2.1 := by unfold need; rw [if_neg k40]
    exact dead 2 _ (er_ne ⟨2, by omega, by omega, rfl⟩ (by omega)) (by unfold yParm; rw [hnd]; rfl)
end
section
variable (ln : Nat → Nat) (q : Nat) (x : Nat → Int32) (n tc : Nat) (G : gE) (fnd : Nat → Int32)
def PMq (tk : yTok) (c ns s p D : Nat) (τ : zSt) (res : Except Int32 (lE × yTok)) (r : Int32) (z : zSt) : Prop :=
  (∀ e, res = .error e → e ≠ 0 ∧ DS ln q e 11000 z ∧ fR q τ z) ∧
  (∀ L' t5, res = .ok (L', t5) → r = nI L'.2.2 ∧ CV ln q x n tc G (lPlace L') L'.2.2 fnd (-1) t5 c ns s p 0 z ∧ fPm q G.2.2.2.2 τ z ∧ CB n tc t5 c ns s p D ∧ tk.2.1 < t5.2.1 ∧ L'.2.2 ≤ 8 ∧ G.2.2.2.2 + L'.2.2 ≤ t5.2.1)
end
section
variable {ln : Nat → Nat} {N M q cc : Nat} {x : Nat → Int32} {n tc : Nat} {G : gE} {L L0 : lE} {np : Nat} {fnd st : Nat → Int32} {mu : Int32} {tk : yTok} {c ns s p t D pl ms : Nat} {σ τ : zSt}
theorem PMq_e {e : Int32} {z : zSt} {r : Int32} {res : Except Int32 (lE × yTok)} (hr : res = .error e) (he : e ≠ 0) (h : DS ln q e 11000 z) (hf : fR q τ z) : PMq ln q x n tc G fnd tk c ns s p D τ res r z := by
  refine ⟨fun e' h' => ?_, fun A tk' h' => by rw [hr] at h'; cases h'⟩
  rw [hr] at h'
  cases h'
  exact ⟨he, h, hf⟩
theorem pm87C {tk0 : yTok} {res : Except Int32 (lE × yTok)} (hL : LN ln q cc) (hn : n ≤ 512) (hN : 5000 ≤ N) (hG : G.2.2.2.2 + L.2.2 ≤ tk.2.1) (h8 : L.2.2 ≤ 8) (h : CV ln q x n tc G (lIx L) np fnd (-1) tk c (ns + 1) s p 0 σ) (hB : CB n tc tk c (ns + 1) s p D) (hF : fPm q G.2.2.2.2 τ σ) (hlt0 : tk0.2.1 ≤ tk.2.1)
    (hres : res = xb (need 50 tk) (fun _ => xb (cm x n tk) (fun t5 => .ok (L, t5)))) :
    wp (fX6_parameters_b87 ln N M (nI G.2.2.2.2) (nI L.2.2) σ) (PMq ln q x n tc G fnd tk0 c ns s p D τ res) := by
  have hB2 := hB
  obtain ⟨b1, b2, b3, b4, b5, b6⟩ := hB
  have hp1 := b1.1
  have hp2 := b1.2.1
  have hnl := h.1.1.2.1
  have hq := hL.1
  have hGn : G.2.2.2.2 + (lIx L).2.2 ≤ n := by show G.2.2.2.2 + L.2.2 ≤ n; omega
  have dead : ∀ e z, res = .error e → e ≠ 0 → DS ln q e 11000 z → fR q τ z → wp (obd (fX1_leave ln N M z) (fun _ σ9 => bnd (zsI σ9 3 5 (nI L.2.2)) (fun σ10 => bnd (0 : Int32) (fun x11 => fX6_parameters_b113 ln N M N (nI G.2.2.2.2) (nI L.2.2) x11 σ10)))) (PMq ln q x n tc G fnd tk0 c ns s p D τ res) := by
    intro e z hr he hd hf
    have := pm87D (N := N) (M := M) (x1 := nI G.2.2.2.2) (k := L.2.2) hL hN (by omega) hd
    unfold fX6_parameters_b87 at this
    rw [passD hd, obd_s] at this
    exact wp_mono this (fun r y hy => PMq_e hr he hy.1 (fR_trans hf hy.2))
  unfold fX6_parameters_b87 fX7_pass
  refine wp_obd ?_
  refine stNeed (D := D) (k := 50) hL hn hGn (by omega) h hB2 ?_ ?_
  · intro y hnd
    rw [hnd, xb_k] at hres
    have hk := need_kk hnd
    have hlt := tk_ne b1 hk (by decide)
    refine stCome (D := D) hL hn hN hGn (by omega) h hB2 ?_ ?_
    · intro t5 hcm hV1 hF1 hB1 hpl1
      rw [hcm, xb_k] at hres
      have hG1 : fPm q G.2.2.2.2 τ (cS x n tk.1 σ) := fPm_trans hF cS_Pm
      revert hV1 hG1
      generalize cS x n tk.1 σ = u1
      intro hV1 hG1
      refine wp_s ?_
      refine stLeave (D := D) hL hV1 hB1 ?_
      intro hV2 hF2 hB2
      rw [bnd_e, bnd_e]
      have hV3 := np_CV (np' := L.2.2) hL hV2
      have hG3 : fPm q G.2.2.2.2 τ (zsI (zsI u1 3 4 (nI ns)) 3 5 (nI L.2.2)) := fPm_trans (fPm_trans hG1 (fPm_I (Or.inl (by unfold eI; omega)))) (fPm_I (Or.inr (Or.inl ⟨rfl, rfl⟩)))
      refine wp_mono (pm113C (L := L) hL (by omega) (by omega) N 0 _ (by omega) (by omega) (CV_c (L := lIx L) (L' := lMx L.2.2 0 L) rfl (fun i hi => ⟨rfl, ?_⟩) hV3)) (fun r z hz => ⟨fun e he => (by rw [hres] at he; cases he), fun L' t' he => ?_⟩)
      · show (if i < 0 then nI i - 2 - nI L.2.2 else nI i) = nI i
        rw [if_neg (by omega)]
      · rw [hres] at he
        cases he
        exact ⟨hz.1, hz.2.1, fPm_trans hG3 hz.2.2, hB2, by omega, h8, by omega⟩
    · intro e z hcm he0 hE
      rw [hcm, xb_e] at hres
      exact wp_s (dead e z hres he0 hE.1 (fR_trans (fPm_R hq hF) hE.2))
  · intro e z hnd he0 hE
    rw [hnd, xb_e] at hres
    rw [comeD hE.1, obd_s]
    exact wp_s (dead e z hres he0 hE.1 (fR_trans (fPm_R hq hF) hE.2))
end
