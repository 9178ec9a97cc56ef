/-! THE CLASS: if -/
section
variable {ln : Nat → Nat} {N M q cc : Nat} {x : Nat → Int32} {n tc : Nat} {G : gE} {L : lE} {np : Nat} {fnd st : Nat → Int32} {tk : yTok} {c ns s p D pl ms : Nat} {σ τ : zSt}
theorem c138D {K : zSt → Option (Int32 × zSt)} {e x1 x2 x3 x4 : Int32} {b : Nat} (hL : LN ln q cc) (h : DS ln q e b σ) : wp (fX6_choice_b138 ln N M K x1 x2 x3 x4 σ) (fun _ z => DD ln q e b σ z) := by
  unfold fX6_choice_b138
  refine wpD (leaveD hL.1 h) (fun _ u hu => ?_)
  rw [rbC hL.1 hu.2.2.2.1.2.2.2.2, rbC hL.1 hu.2.2.2.1.2.2.2.2]
  refine wpD (setCD hL hu) (fun _ v hv => ?_)
  rw [rbT hL.1 hv.2.2.2.1.2.2.2.1]
  refine wpD (treeD hL hv) (fun r w hw => ?_)
  rw [rbT hL.1 hw.2.2.2.1.2.2.2.1]
  exact wp_obd (wp_mono (setPD hL hw) (fun _ y hy => wp_s hy))
theorem c138C {K : zSt → Option (Int32 × zSt)} {A B C : fT} {a b s2 P h : Nat} {X Y Z : Int32} (hL : LN ln q cc) (hV : CV ln q x n tc G L np fnd (-1) tk c (ns + 1) s2 P 0 σ) (hs2 : s2 < ln 15) (hP : P ≤ 10500) (hh : h < P) (h1 : s ≤ a) (h2 : a ≤ b) (h3 : b ≤ s2) (hA : (crp σ q fnd np A).1 s a X) (hB : (crp σ q fnd np B).1 a b Y) (hC : (crp σ q fnd np C).1 b s2 Z) :
    ∃ z, fX6_choice_b138 ln N M K X (nI h) Y Z σ = some (nI s2, z) ∧ CV ln q x n tc G L np fnd (-1) tk c ns (s2 + 1) P 0 z ∧ (∀ T, fX q s2 h T σ z) ∧ (crp z q fnd np (fN 22 0 0 A B C)).1 s (s2 + 1) (nI s2) ∧ (h < ln (q + 36) → zA z (q + 36) h = nI P) ∧ (∀ i, i ≠ h → zA z (q + 36) i = zA σ (q + 36) i) ∧ nxP q (s2 + 1) z := by
  have hq := hL.1
  have h15 := hL.2.1
  unfold fX6_choice_b138 fX1_leave
  rw [hV.2.2.2.2.1, nI_pred, bnd_e, obd_s]
  have hV1 : CV ln q x n tc G L np fnd (-1) tk c ns s2 P 0 (zsI σ 3 4 (nI ns)) := by
    refine CV_f hL.1 hV (fX_I fX_refl (by unfold eI; omega)) (fun k => by rw [zI_I, if_neg (by omega)]) (fun k => rfl) ?_ (by rw [zI_I, if_pos ⟨rfl, rfl⟩]) ?_ ?_ ?_ ?_
    · rw [zI_I, if_neg (by omega)]; exact hV.2.2.2.1
    · rw [zI_I, if_neg (by omega)]; exact hV.2.2.2.2.2.1
    · rw [zI_I, if_neg (by omega)]; exact hV.2.2.2.2.2.2.1
    · rw [zI_I, if_neg (by omega)]; exact hV.2.2.2.2.2.2.2.1
    · rw [zI_I, if_neg (by omega)]; exact hV.2.2.2.2.2.2.2.2
  have hF1 : ∀ p1 T, fX q s2 p1 T σ (zsI σ 3 4 (nI ns)) := fun p1 T => fX_I fX_refl (by unfold eI; omega)
  have hr1 : ∀ i, zA (zsI σ 3 4 (nI ns)) (q + 36) i = zA σ (q + 36) i := fun i => zA_I ..
  revert hV1 hF1 hr1
  generalize zsI σ 3 4 (nI ns) = s1
  intro hV1 hF1 hr1
  rw [rbC hL.1 hV1.1.2.1.2.2.2.2, rbC hL.1 hV1.1.2.1.2.2.2.2, hV1.2.2.2.2.2.2.1]
  obtain ⟨u, u1, u2, u3, u4, u5, u6, u7⟩ := setC (N := N) (M := M) (σ := s1) (h := h) (v := nI P) hL (by omega)
  rw [u1, obd_s]
  obtain ⟨hV2, hF2⟩ := set_CV (D := h) hL hV1 u3 u4 u5 u6 u7
  rw [rbT hL.1 hV2.1.2.1.2.2.2.1, treeC hL hV2.2.2.2.2.2.1 hs2, obd_s]
  obtain ⟨hV3, hF3⟩ := ta_CV (k := 10) (a := 0) (b := -1) (d := -1) hL hV2
  rw [rbT hL.1 hV3.1.2.1.2.2.2.1, setPC hL hV3.2.2.2.2.2.1 (by omega) (by omega), obd_s]
  have hA2 := crp_fX hL.1 (hF2 s2 0) (by omega) (crp_fX hL.1 (hF1 0 0) (by omega) hA)
  have hB2 := crp_fX hL.1 (hF2 s2 0) (by omega) (crp_fX hL.1 (hF1 0 0) (by omega) hB)
  have hC2 := crp_fX hL.1 (hF2 s2 0) (Nat.le_refl _) (crp_fX hL.1 (hF1 0 0) (Nat.le_refl _) hC)
  have hrow : ∀ i, zA (spS (taS u q s2 10 0 (-1) (-1)) q s2 X Y Z) (q + 36) i = zA u (q + 36) i := fun i => (spS_fX (q := q) (s := s2) (p := i + 1) (t := 0) (m := s2) (τ := u) (u := taS u q s2 10 0 (-1) (-1)) (b := X) (c := Y) (d := Z) (fX_ta fX_refl (Nat.le_refl _) hq) (Nat.le_refl _) hq).2.2.2.1 (q + 36) i (by unfold eA; omega)
  refine ⟨_, rfl, sp_CV hL hV3, fun T => fX_trans (fX_trans (hF1 h T) (hF2 s2 T) (Nat.le_refl _) (Nat.le_refl _) (Nat.le_refl _)) (spS_fX (fX_ta fX_refl (Nat.le_refl _) hq) (Nat.le_refl _) hq) (Nat.le_refl _) (Nat.le_refl _) (Nat.le_refl _), ?_, fun e => (hrow h).trans (u2 e), fun i hi => (hrow i).trans ((u3 _ _ (Or.inr hi)).trans (hr1 i)), nx_sp hq nx_ta⟩
  exact crp_sp (k := 22) (v := 0) (w := 0) hq (by omega) h1 h2 h3 (Or.inr rfl) hA2 (fun e => by omega) (fun _ => ⟨hB2, hC2⟩)
def tlI3 (ln : Nat → Nat) (N M : Nat) (K : zSt → Option (Int32 × zSt)) (r7 x41 r14 : Int32) (r42 : Int32) (σ43 : zSt) : Option (Int32 × zSt) :=
  obd (fX1_leave ln N M  σ43) (fun _ σ45 => fX6_choice_b138 ln N M K  r7 x41 r14 r42 σ45)
def tlI2b (ln : Nat → Nat) (N M : Nat) (K : zSt → Option (Int32 × zSt)) (r7 x13 r14 : Int32) (σ32 : zSt) : Option (Int32 × zSt) :=
  rbd (zR σ32 2 6) 13 14 (fun q33 =>
  obd (fX0_addWith ln N M q33 (30 : Int32) (0 : Int32) σ32) (fun _ σ35 =>
  rbd (zR σ35 2 6) 13 14 (fun q36 =>
  rbd (zR σ35 2 6) 13 14 (fun q37 =>
  obd (fX0_set ln N M q36 x13 (zI σ35 q37 1) σ35) (fun _ σ39 =>
  rbd (zR σ39 2 6) 13 14 (fun q40 =>
  bnd ((zI σ39 q40 1) - (1 : Int32)) (fun x41 =>
  obd (K  σ39) (fun r42 σ43 => tlI3 ln N M K r7 x41 r14 r42 σ43))))))))
def tlI2 (ln : Nat → Nat) (N M : Nat) (K : zSt → Option (Int32 × zSt)) (r7 x13 : Int32) (r14 : Int32) (σ15 : zSt) : Option (Int32 × zSt) :=
  bnd (-1 : Int32) (fun x16 =>
  if (zI σ15 1 3) = (44 : Int32) then (
    obd (fX1_enter ln N M  σ15) (fun _ σ30 =>
    obd (fX7_come ln N M  σ30) (fun _ σ32 => tlI2b ln N M K r7 x13 r14 σ32)))
  else (
    fX6_choice_b138 ln N M K  r7 x13 r14 x16 σ15))
def tlI1 (ln : Nat → Nat) (N M : Nat) (K : zSt → Option (Int32 × zSt)) (r7 : Int32) (σ8 : zSt) : Option (Int32 × zSt) :=
  rbd (zR σ8 2 6) 13 14 (fun q9 =>
  obd (fX0_addWith ln N M q9 (31 : Int32) (0 : Int32) σ8) (fun _ σ11 =>
  rbd (zR σ11 2 6) 13 14 (fun q12 =>
  bnd ((zI σ11 q12 1) - (1 : Int32)) (fun x13 =>
  obd (K  σ11) (fun r14 σ15 => tlI2 ln N M K r7 x13 r14 σ15)))))
theorem TD_I3 {K : zSt → Option (Int32 × zSt)} {r7 x41 r14 : Int32} (hL : LN ln q cc) : ∀ e b r σ, DS ln q e b σ → wp (tlI3 ln N M K r7 x41 r14 r σ) (fun _ z => DD ln q e b σ z) := by
  intro e b r z h
  unfold tlI3
  exact wpD (leaveD hL.1 h) (fun _ u hu => c138D hL hu)
theorem TD_I2b {K : zSt → Option (Int32 × zSt)} {r7 x13 r14 : Int32} (hL : LN ln q cc) (hKS : KSD ln q K) : ∀ e b σ, b < 2 ^ 28 → DS ln q e b σ → wp (tlI2b ln N M K r7 x13 r14 σ) (fun _ z => DD ln q e (b + 2) σ z) := by
  intro e b z hb h
  unfold tlI2b
  rw [rbC hL.1 h.2.2.2.1.2.2.2.2]
  refine wpD (addD2 hL (by omega) h) (fun _ u hu => ?_)
  rw [rbC hL.1 hu.2.2.2.1.2.2.2.2, rbC hL.1 hu.2.2.2.1.2.2.2.2]
  refine wpD (setCD hL hu) (fun _ v hv => ?_)
  rw [rbC hL.1 hv.2.2.2.1.2.2.2.2, bnd_e]
  exact wpD (hKS _ _ _ hv) (fun r w hw => TD_I3 hL e _ r w hw)
theorem TD_I2 {K : zSt → Option (Int32 × zSt)} {r7 x13 : Int32} (hL : LN ln q cc) : ∀ e b r σ, DS ln q e b σ → wp (tlI2 ln N M K r7 x13 r σ) (fun _ z => DD ln q e b σ z) := by
  intro e b r z h
  unfold tlI2
  rw [bnd_e, h.2.2.1, if_neg (by decide)]
  exact c138D hL h
theorem TD_I1 {K : zSt → Option (Int32 × zSt)} (hL : LN ln q cc) (hKS : KSD ln q K) : TD ln q (tlI1 ln N M K) := by
  intro e b r z hb h
  unfold tlI1
  rw [rbC hL.1 h.2.2.2.1.2.2.2.2]
  refine wp_mono (wpD (b1 := b + 2) (addD2 hL (by omega) h) (fun _ u hu => ?_)) (fun _ y hy => DD_tr hy fR_refl (by omega))
  rw [rbC hL.1 hu.2.2.2.1.2.2.2.2, bnd_e]
  exact wpD (hKS _ _ _ hu) (fun r v hv => TD_I2 hL e _ r v hv)
/-- behind if ( E ) S -/
theorem ifT {K : zSt → Option (Int32 × zSt)} {R : ySrec} {A B : fT} {tk0 : yTok} {s2 s3 c0 : Nat} {r7 r14 : Int32} {res : Except Int32 (fT × yTok × Nat × Nat)} (hL : LN ln q cc) (hn : n ≤ 512) (hN : 5000 ≤ N) (hG : G.2.2.2.2 + L.2.2 ≤ tk.2.1) (hKv : KSv ln q x n tc G np fnd st R K) (hKS : KSD ln q K) (h : SVc ln q x n tc G np fnd L tk c (ns + 1) s3 (p + (gl A).2 + 2 + (gl B).2) pl ms σ) (hB : CB n tc tk c (ns + 1) s3 (p + (gl A).2 + 2 + (gl B).2) (D + 1)) (hP : p ≤ 4 + 20 * (s + D)) (hpm : pl ≤ tk.2.1) (hms : ms ≤ tk.2.1) (hF : fSt q s p (G.2.2.2.2 + L.2.2) τ σ) (hcA : (crp σ q fnd np A).1 s s2 r7) (hcB : (crp σ q fnd np B).1 s2 s3 r14) (hcdA : cdC ln q σ p ((gn st (nI np) A).2 p)) (hcd31 : cdC ln q σ (p + (gl A).2) [31, 0]) (hcdB : cdC ln q σ (p + (gl A).2 + 2) ((gn st (nI np) B).2 (p + (gl A).2 + 2))) (hlt0 : tk0.2.1 < tk.2.1)
    (hres : res = if tk.2.2.1 = 44 then xb (ne (ns + 1) tk.2.1) (fun _ => xb (cm x n tk) (fun t3 => xb (R (ns + 2) L pl ms t3 c) (fun r => .ok (fN 22 0 0 A B r.1, r.2)))) else .ok (fN 22 0 0 A B fZ, tk, c, ms)) (h0 : res ≠ .error 0) :
    wp (tlI2 ln N M K r7 (nI (p + (gl A).2 + 1)) r14 σ) (SQ ln q x n tc G np fnd st L tk0 ns s p D pl (SBc ns) τ res) := by
  obtain ⟨hV, h8, h9⟩ := h
  have hq := hL.1
  have h15 := hL.2.1
  have hB0 := hB
  obtain ⟨b1, b2, b3, b4, b5, b6⟩ := hB
  have hp1 := b1.1
  have hp2 := b1.2.1
  have hnl := hV.1.1.2.1
  have hSB := (SB_ge (ns := ns)).1
  have hcc : ln (q + 36) ≤ 4096 := by have := hL.2.2.2.2.2.2.2.2.2.2.2; omega
  have hcntA := (crp_cnt A).1 _ _ _ hcA
  have hcntB := (crp_cnt B).1 _ _ _ hcB
  have hgA := gl_le A
  have hgB := gl_le B
  have hlA := (gn_len st (nI np) A).2 p
  have hlB := (gn_len st (nI np) B).2 (p + (gl A).2 + 2)
  unfold tlI2
  rw [bnd_e, hV.2.1.2.2.1]
  by_cases k44 : tk.2.2.1 = 44
  · rw [if_pos k44] at hres ⊢
    have hlt := tk_ne b1 k44 (by decide)
    have dead : ∀ e z, res = .error e → e ≠ 0 → DS ln q e 11000 z → fR q τ z → wp (tlI2b ln N M K r7 (nI (p + (gl A).2 + 1)) r14 z) (SQ ln q x n tc G np fnd st L tk0 ns s p D pl (SBc ns) τ res) := fun e z hr he hd hf => wp_mono (TD_I2b hL hKS e _ z (by omega) hd) (fun r y hy => SQ_e hr he hy.1 (fR_trans hf hy.2) (by omega))
    refine stEnter (D := D + 1) hL hn (by omega) (by omega) hV hB0 ?_ ?_
    · intro y hen hV1 hF1 hB1
      rw [hen, xb_k] at hres
      have hns := ne_kk hen
      have hS1 : SBc (ns + 2) + 50 ≤ SBc ns := by unfold SBc; omega
      revert hV1 hF1
      generalize zsI σ 3 4 (nI (ns + 1 + 1)) = s1
      intro hV1 hF1
      refine stCome (D := D + 1) hL hn hN (by omega) (by omega) hV1 hB1 ?_ ?_
      · intro t3 hcm hV2 hF2 hB2 hpl2
        rw [hcm, xb_k] at hres
        have hF12 := fX_trans hF1 hF2 (Nat.le_refl _) (Nat.le_refl _) (Nat.le_refl _)
        revert hV2 hF12
        generalize cS x n tk.1 s1 = z2
        intro hV2 hF12
        have hcA2 := crp_fX hq hF12 (by omega) hcA
        have hcB2 := crp_fX hq hF12 (Nat.le_refl _) hcB
        have hdA2 := cdC_fX hq hF12 (by omega) hcdA
        have hd312 := cdC_fX hq hF12 (by show p + (gl A).2 + 2 ≤ _; omega) hcd31
        have hdB2 := cdC_fX hq hF12 (by omega) hcdB
        have hq1 := hB2.1.1
        have hq2 := hB2.1.2.1
        have hq3 := hB2.2.2.2.2.1
        unfold tlI2b
        rw [rbC hL.1 hV2.1.2.1.2.2.2.2, addC2 hcc hV2.2.2.2.2.2.2.1 (by omega), obd_s]
        obtain ⟨hV3, hF3⟩ := ck_CV (l := [30, 0]) hL hV2
        have hd30 := ckS_cd (ln := ln) (q := q) (p := p + (gl A).2 + 2 + (gl B).2) (σ := z2) (l := [30, 0])
        have hcA3 := crp_fX hq hF3 (by omega) hcA2
        have hcB3 := crp_fX hq hF3 (Nat.le_refl _) hcB2
        have hdA3 := cdC_fX hq hF3 (by omega) hdA2
        have hd313 := cdC_fX hq hF3 (by show p + (gl A).2 + 2 ≤ _; omega) hd312
        have hdB3 := cdC_fX hq hF3 (by omega) hdB2
        have hF03 := fSt_trans hF (fX_T (nn := G.2.2.2.2 + L.2.2) (fX_trans hF12 hF3 (Nat.le_refl _) (Nat.le_refl _) (Nat.le_refl _))) (by omega) (by omega) (Nat.le_refl _)
        have h83 : zI (ckS ln q z2 (p + (gl A).2 + 2 + (gl B).2) [30, 0]) 2 8 = nI pl := (hF3.1 2 8 (by unfold eI; omega)).trans ((hF12.1 2 8 (by unfold eI; omega)).trans h8)
        have h93 : zI (ckS ln q z2 (p + (gl A).2 + 2 + (gl B).2) [30, 0]) 2 9 = nI ms := (hF3.1 2 9 (by unfold eI; omega)).trans ((hF12.1 2 9 (by unfold eI; omega)).trans h9)
        revert hV3 hd30 hcA3 hcB3 hdA3 hd313 hdB3 hF03 h83 h93
        generalize ckS ln q z2 (p + (gl A).2 + 2 + (gl B).2) [30, 0] = s3'
        intro hV3 hd30 hcA3 hcB3 hdA3 hd313 hdB3 hF03 h83 h93
        rw [rbC hL.1 hV3.1.2.1.2.2.2.2, rbC hL.1 hV3.1.2.1.2.2.2.2, hV3.2.2.2.2.2.2.1]
        obtain ⟨u, u1, u2, u3, u4, u5, u6, u7⟩ := setC (N := N) (M := M) (σ := s3') (h := p + (gl A).2 + 1) (v := nI (p + (gl A).2 + 2 + (gl B).2 + ([30, 0] : List Int32).length)) hL (by omega)
        rw [u1, obd_s]
        obtain ⟨hV4, hF4⟩ := set_CV (D := p + (gl A).2 + 1) hL hV3 u3 u4 u5 u6 u7
        rw [rbC hL.1 hV4.1.2.1.2.2.2.2, bnd_e, hV4.2.2.2.2.2.2.1, show p + (gl A).2 + 2 + (gl B).2 + ([30, 0] : List Int32).length = (p + (gl A).2 + 2 + (gl B).2 + 1) + 1 from rfl, nI_pred]
        have hcA4 := crp_fX hq (hF4 s3 0) (by omega) hcA3
        have hcB4 := crp_fX hq (hF4 s3 0) (Nat.le_refl _) hcB3
        have lo4 : ∀ (p1 : Nat) (l : List Int32), (p1 + l.length ≤ p + (gl A).2 + 1 ∨ p + (gl A).2 + 2 ≤ p1) → cdC ln q s3' p1 l → cdC ln q u p1 l := by
          intro p1 l hpl hcl hl j v hj
          have hjl : j < l.length := by
            by_cases e : j < l.length
            · exact e
            · rw [List.getElem?_eq_none (by omega)] at hj; cases hj
          rw [u3 _ _ (by omega)]
          exact hcl hl j v hj
        have hdA4 := lo4 _ _ (by omega) hdA3
        have hdB4 := lo4 _ _ (by omega) hdB3
        have hd304 := lo4 _ _ (by omega) hd30
        have hd314 : cdC ln q u (p + (gl A).2) [31, nI (p + (gl A).2 + 2 + (gl B).2 + 2)] := cdC_set (l := [31]) (σ := s3') (h := p + (gl A).2 + 1) (w := 0) rfl hd313 (fun e => u2 e) (fun i h1 h2 => u3 _ _ (by omega))
        have hF04 := fSt_trans hF03 (fX_T (nn := G.2.2.2.2 + L.2.2) (hF4 s3 0)) (by omega) (by omega) (Nat.le_refl _)
        refine wp_obd (wp_mono (hKv (ns + 2) L pl ms t3 c s3 (p + (gl A).2 + 2 + (gl B).2 + 2) (D + 1) u ⟨hV4, (u4 _ _).trans h83, (u4 _ _).trans h93⟩ ⟨hB2.1, hB2.2.1, b3, hB2.2.2.2.1, hq3, by omega⟩ (by omega) (by omega) (by omega) (by omega) (fun w => h0 (by rw [hres, w]; rfl))) (fun r42 z5 hz5 => ?_))
        cases hr2 : R (ns + 2) L pl ms t3 c with
        | error e =>
          obtain ⟨he0, hd, hf⟩ := hz5.1 e hr2
          rw [hr2, xb_e] at hres
          exact wp_mono (TD_I3 hL e _ r42 z5 hd) (fun r y hy => SQ_e hres he0 hy.1 (fR_trans (fSt_R hq hF04) (fR_trans hf hy.2)) (by omega))
        | ok v2 =>
          obtain ⟨C, tk5, c5, ms5⟩ := v2
          rw [hr2, xb_k] at hres
          obtain ⟨s5, ⟨hV5, h85, h95⟩, hF5, hc5, hnd5, hcd5, hB5, hlt5, hms5, -⟩ := hz5.2 C tk5 c5 ms5 hr2
          have hcntC := (crp_cnt C).1 _ _ _ hc5
          have hgC := gl_le C
          have hlC := (gn_len st (nI np) C).2 (p + (gl A).2 + 2 + (gl B).2 + 2)
          have hq5 := hB5.1.1
          have hq6 := hB5.1.2.1
          have hq7 := hB5.2.2.2.2.1
          have hpz5 := hB5.2.2.2.2.2
          unfold tlI3
          refine stLeave hL hV5 hB5 ?_
          intro hV6 hF6 hB6
          have hcA6 := crp_fX hq hF6 (by omega) (crp_fSt hq hF5 (by omega) hcA4)
          have hcB6 := crp_fX hq hF6 (by omega) (crp_fSt hq hF5 (Nat.le_refl _) hcB4)
          have hcC6 := crp_fX hq hF6 (Nat.le_refl _) hc5
          have hdA6 := cdC_fX hq hF6 (by omega) (cdC_fSt hq hF5 (by omega) hdA4)
          have hdB6 := cdC_fX hq hF6 (by omega) (cdC_fSt hq hF5 (by omega) hdB4)
          have hd306 := cdC_fX hq hF6 (by show p + (gl A).2 + 2 + (gl B).2 + 2 ≤ _; omega) (cdC_fSt hq hF5 (Nat.le_refl _) hd304)
          have hd316 := cdC_fX hq hF6 (by show p + (gl A).2 + 2 ≤ _; omega) (cdC_fSt hq hF5 (by show p + (gl A).2 + 2 ≤ _; omega) hd314)
          have hdC6 := cdC_fX hq hF6 (by omega) hcd5
          have hF06 := fSt_trans (fSt_trans hF04 hF5 (by omega) (by omega) (Nat.le_refl _)) (fX_T (nn := G.2.2.2.2 + L.2.2) hF6) (by omega) (by omega) (Nat.le_refl _)
          have h86 : zI (zsI z5 3 4 (nI (ns + 1))) 2 8 = nI pl := by rw [zI_I, if_neg (by omega)]; exact h85
          have h96 : zI (zsI z5 3 4 (nI (ns + 1))) 2 9 = nI ms5 := by rw [zI_I, if_neg (by omega)]; exact h95
          revert hV6 hcA6 hcB6 hcC6 hdA6 hdB6 hd306 hd316 hdC6 hF06 h86 h96
          generalize zsI z5 3 4 (nI (ns + 1)) = z6
          intro hV6 hcA6 hcB6 hcC6 hdA6 hdB6 hd306 hd316 hdC6 hF06 h86 h96
          obtain ⟨w, w1, w2, w3, w4, w5, w6, w7⟩ := c138C (N := N) (M := M) (K := K) (h := p + (gl A).2 + 2 + (gl B).2 + 1) hL hV6 (by omega) (by omega) (by omega) (by omega) (by omega) (by omega) hcA6 hcB6 hcC6
          rw [w1]
          have hCt : (gl C).1 = true ∧ (gn st (nI np) C).1 = true := by
            obtain ⟨a', b', c', d', e', f', rfl⟩ := hnd5
            exact ⟨by rw [gl_N]; rfl, by rw [gn_N]; rfl⟩
          have hgl : (gl (fN 22 0 0 A B C)).2 = (gl A).2 + (2 + ((gl B).2 + (2 + (gl C).2))) := by
            rw [gl_N]
            show (if (gl C).1 = true then _ else _) = _
            rw [if_pos hCt.1]
          refine wp_s ⟨fun e h' => (by rw [hres] at h'; cases h'), fun A1 tk1 c1' ms1 h' => ?_⟩
          rw [hres] at h'
          cases h'
          refine ⟨s5 + 1, ⟨?_, ((w3 0).1 2 8 (by unfold eI; omega)).trans h86, ((w3 0).1 2 9 (by unfold eI; omega)).trans h96⟩, fSt_trans hF06 (fX_T (nn := G.2.2.2.2 + L.2.2) (w3 0)) (by omega) (by omega) (Nat.le_refl _), w4, ⟨_, _, _, _, _, _, rfl⟩, ?_, ?_, by omega, hms5, w7⟩
          · rw [hgl, show p + ((gl A).2 + (2 + ((gl B).2 + (2 + (gl C).2)))) = p + (gl A).2 + 2 + (gl B).2 + 2 + (gl C).2 by omega]
            exact w2
          · have lo6 : ∀ (p1 : Nat) (l : List Int32), (p1 + l.length ≤ p + (gl A).2 + 2 + (gl B).2 + 1 ∨ p + (gl A).2 + 2 + (gl B).2 + 2 ≤ p1) → cdC ln q z6 p1 l → cdC ln q w p1 l := by
              intro p1 l hpl hcl hl j v hj
              have hjl : j < l.length := by
                by_cases e : j < l.length
                · exact e
                · rw [List.getElem?_eq_none (by omega)] at hj; cases hj
              rw [w6 _ (by omega)]
              exact hcl hl j v hj
            rw [gn_N]
            show cdC ln q w p (if (gn st (nI np) C).1 = true then (gn st (nI np) A).2 p ++ ([31, nI (p + ((gn st (nI np) A).2 p).length + 2 + ((gn st (nI np) B).2 (p + ((gn st (nI np) A).2 p).length + 2)).length + 2)] ++ ((gn st (nI np) B).2 (p + ((gn st (nI np) A).2 p).length + 2) ++ ([30, nI (p + ((gn st (nI np) A).2 p).length + 2 + ((gn st (nI np) B).2 (p + ((gn st (nI np) A).2 p).length + 2)).length + 2 + ((gn st (nI np) C).2 (p + ((gn st (nI np) A).2 p).length + 2 + ((gn st (nI np) B).2 (p + ((gn st (nI np) A).2 p).length + 2)).length + 2)).length)] ++ (gn st (nI np) C).2 (p + ((gn st (nI np) A).2 p).length + 2 + ((gn st (nI np) B).2 (p + ((gn st (nI np) A).2 p).length + 2)).length + 2)))) else _)
            rw [if_pos hCt.2, hlA, hlB, hlC]
            refine cdC_app (lo6 _ _ (by omega) hdA6) ?_
            rw [hlA]
            refine cdC_app (lo6 _ _ (by show p + (gl A).2 + 2 ≤ _ ∨ _; omega) hd316) ?_
            show cdC ln q w (p + (gl A).2 + 2) _
            refine cdC_app (lo6 _ _ (by omega) hdB6) ?_
            rw [hlB]
            refine cdC_app (cdC_set (l := [30]) (σ := z6) (h := p + (gl A).2 + 2 + (gl B).2 + 1) (w := 0) rfl hd306 (fun e => w5 e) (fun i h1 h2 => w6 _ (by omega))) ?_
            show cdC ln q w (p + (gl A).2 + 2 + (gl B).2 + 2) _
            exact lo6 _ _ (by omega) hdC6
          · rw [hgl]
            exact ⟨hB5.1, hB5.2.1, b3, by omega, by omega, by omega⟩
      · intro e z hcm he0 hE
        rw [hcm, xb_e] at hres
        exact dead e z hres he0 hE.1 (fR_trans (fSt_R hq hF) (fR_trans (fX_R hq hF1) hE.2))
    · intro e z hen he0 hE
      rw [hen, xb_e] at hres
      rw [comeD hE.1, obd_s]
      exact dead e z hres he0 hE.1 (fR_trans (fSt_R hq hF) hE.2)
  · rw [if_neg k44] at hres ⊢
    obtain ⟨w, w1, w2, w3, w4, w5, w6, w7⟩ := c138C (N := N) (M := M) (K := K) (C := fZ) (Z := -1) (h := p + (gl A).2 + 1) hL hV (by omega) b6 (by omega) (by omega) (by omega) (Nat.le_refl _) hcA hcB crp_e
    rw [w1]
    have hgl : (gl (fN 22 0 0 A B fZ)).2 = (gl A).2 + (2 + (gl B).2) := by rw [gl_N, gl_isZ isZ_Z]; rfl
    refine wp_s ⟨fun e h' => (by rw [hres] at h'; cases h'), fun A1 tk1 c1' ms1 h' => ?_⟩
    rw [hres] at h'
    cases h'
    refine ⟨s3 + 1, ⟨?_, ((w3 0).1 2 8 (by unfold eI; omega)).trans h8, ((w3 0).1 2 9 (by unfold eI; omega)).trans h9⟩, fSt_trans hF (fX_T (nn := G.2.2.2.2 + L.2.2) (w3 0)) (by omega) (by omega) (Nat.le_refl _), w4, ⟨_, _, _, _, _, _, rfl⟩, ?_, ?_, hlt0, hms, w7⟩
    · rw [hgl, show p + ((gl A).2 + (2 + (gl B).2)) = p + (gl A).2 + 2 + (gl B).2 by omega]
      exact w2
    · have lo6 : ∀ (p1 : Nat) (l : List Int32), (p1 + l.length ≤ p + (gl A).2 + 1 ∨ p + (gl A).2 + 2 ≤ p1) → cdC ln q σ p1 l → cdC ln q w p1 l := by
        intro p1 l hpl hcl hl j v hj
        have hjl : j < l.length := by
          by_cases e : j < l.length
          · exact e
          · rw [List.getElem?_eq_none (by omega)] at hj; cases hj
        rw [w6 _ (by omega)]
        exact hcl hl j v hj
      rw [gn_N, gn_isZ isZ_Z]
      show cdC ln q w p ((gn st (nI np) A).2 p ++ ([31, nI (p + ((gn st (nI np) A).2 p).length + 2 + ((gn st (nI np) B).2 (p + ((gn st (nI np) A).2 p).length + 2)).length)] ++ (gn st (nI np) B).2 (p + ((gn st (nI np) A).2 p).length + 2)))
      rw [hlA, hlB]
      refine cdC_app (lo6 _ _ (by omega) hcdA) ?_
      rw [hlA]
      refine cdC_app (cdC_set (l := [31]) (σ := σ) (h := p + (gl A).2 + 1) (w := 0) rfl hcd31 (fun e => w5 e) (fun i h1 h2 => w6 _ (by omega))) ?_
      show cdC ln q w (p + (gl A).2 + 2) _
      exact lo6 _ _ (by omega) hcdB
    · rw [hgl]
      exact ⟨b1, b2, b3, by omega, by omega, by omega⟩
end
