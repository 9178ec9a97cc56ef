/-! THE CLASS: NAME [ E ] = E ; and a call alone; all S that begin with a NAME -/
section
variable {ln : Nat → Nat} {N M q cc : Nat} {x : Nat → Int32} {n tc : Nat} {G : gE} {L : lE} {np : Nat} {fnd st : Nat → Int32} {tk : yTok} {c ns s p D pl ms : Nat} {σ τ : zSt}
def tlIt (ln : Nat → Nat) (N M : Nat) (a1_ r1 : Int32) (r5 : Int32) (σ8 : zSt) : Option (Int32 × zSt) :=
  obd (fX4_placeOf ln N M a1_ σ8) (fun r9 σ10 =>
  obd (fX4_countOf ln N M a1_ σ10) (fun r11 σ12 =>
  rbd (zR σ12 2 6) 13 14 (fun q13 =>
  obd (fX0_addWithTwo ln N M q13 (7 : Int32) r9 r11 σ12) (fun _ σ15 =>
  rbd (zR σ15 2 5) 11 12 (fun q16 =>
  obd (fX9_add ln N M q16 (16 : Int32) r9 (-1 : Int32) (-1 : Int32) σ15) (fun r17 σ18 =>
  rbd (zR σ18 2 5) 11 12 (fun q19 =>
  obd (fX9_setParts ln N M q19 r17 r1 r11 r5 σ18) (fun _ σ21 =>
  some (r17, σ21)))))))))
theorem TD_It {x1_ r1 : Int32} (hL : LN ln q cc) : TD ln q (tlIt ln N M x1_ r1) := by
  intro e b r z hb h
  unfold tlIt
  refine wp_mono (wpE (b1 := b + 3) (e := e) (nmD (v := 0) hL h).1 (fun r1 => wpE (nmD (v := 0) hL h).2.1 (fun r3 => ?_))) (fun _ y hy => DD_tr hy fR_refl (by omega))
  rw [rbC hL.1 h.2.2.2.1.2.2.2.2]
  refine wpD (addD3 hL (by omega) h) (fun _ u hu => ?_)
  rw [rbT hL.1 hu.2.2.2.1.2.2.2.1]
  refine wpD (treeD hL hu) (fun r v hv => ?_)
  rw [rbT hL.1 hv.2.2.2.1.2.2.2.1]
  exact wp_obd (wp_mono (setPD hL hv) (fun _ w hw => wp_s hw))
theorem itC {k : Nat ⊕ Nat} {pla : Nat} {tk0 : yTok} {res : Except Int32 (fT × yTok × Nat × Nat)} (hL : LN ln q cc) (hn : n ≤ 512) (hN : 5000 ≤ N) (hM : 43 ≤ M) (hG : G.2.2.2.2 + L.2.2 ≤ tk.2.1) (hgs : gSr G) (hst : ∀ g, g < G.2.2.2.2 → G.2.1 g = 2 → G.2.2.1 g = st g) (h : CV ln q x n tc G L np fnd (-1) tk c ns s p 0 σ) (h8 : zI σ 2 8 = nI pl) (h9 : zI σ 2 9 = nI ms) (hB : CB n tc tk c ns s p (D + 1)) (hP : p ≤ 4 + 20 * (s + D)) (hms : ms ≤ tk.2.1) (hpla : pla ≤ 512) (hk : tk.2.2.1 = 53) (hq : inQ G L k) (hF : fX q s p 0 τ σ) (hpl0 : tk0.2.1 ≤ tk.2.1)
    (hres : res = xb (yIndex x n (yE x n tc G L 42) G k pla ns tk c) (fun u => xb (need 57 u.2.1) (fun _ => xb (cm x n u.2.1) (fun t3 => xb (yE x n tc G L 42 ns 56 t3 u.2.2) (fun v => xb (cm x n v.2.1) (fun t5 => .ok (fN 28 (adOf G k).toInt (mnOf G k).toInt u.1 v.1 fZ, t5, v.2.2, ms))))))) (h0 : res ≠ .error 0) :
    wp (fX6_itemAssignment ln N M (nI (ixC G k)) (nI pla) σ) (SQ ln q x n tc G np fnd st L tk0 ns s p D pl (SBc ns) τ res) := by
  have hqq := hL.1
  have hnl := h.1.1.2.1
  have hp1 := hB.1.1
  have hp2 := hB.1.2.1
  have hb4 := hB.2.2.2.1
  have hlt := tk_ne hB.1 hk (by decide)
  have hSB := (SB_ge (ns := ns)).1
  have hE1 : EBc (ns + 1) + 20 ≤ SBc ns := by unfold SBc EBc; omega
  have hcc : ln (q + 36) ≤ 4096 := by have := hL.2.2.2.2.2.2.2.2.2.2.2; omega
  obtain ⟨M', rfl⟩ : ∃ g, M = g + 1 := ⟨M - 1, by omega⟩
  have hKD := expD (N := N) (M := M' + 1) (d := M') hL hN
  have hT : ∀ r1, TD ln q (tlIt ln N (M' + 1) (nI (ixC G k)) r1) := fun r1 => TD_It hL
  have dead : ∀ e b z r1, res = .error e → e ≠ 0 → DS ln q e b z → b + 10 ≤ SBc ns → b < 2 ^ 28 → fR q τ z → wp (obd (fX2_expression ln N (M' + 1) (M' + 1) (56 : Int32) z) (fun r5 σ6 => obd (fX7_come ln N (M' + 1) σ6) (fun _ σ8 => tlIt ln N (M' + 1) (nI (ixC G k)) r1 r5 σ8))) (SQ ln q x n tc G np fnd st L tk0 ns s p D pl (SBc ns) τ res) := fun e b z r1 hr he hd hb hb2 hf => wp_mono (esD hL hN (by omega) hb2 (hT r1) hd) (fun r y hy => SQ_e hr he hy.1 (fR_trans hf hy.2) hb)
  show wp (obd (fX2_index ln N (M' + 1) (fX2_expression ln N (M' + 1) (M' + 1)) (nI (ixC G k)) (nI pla) σ) (fun r1 σ2 => obd (fX7_pass ln N (M' + 1) (57 : Int32) σ2) (fun _ σ4 => obd (fX2_expression ln N (M' + 1) (M' + 1) (56 : Int32) σ4) (fun r5 σ6 => obd (fX7_come ln N (M' + 1) σ6) (fun _ σ8 => tlIt ln N (M' + 1) (nI (ixC G k)) r1 r5 σ8))))) _
  refine wp_obd (wp_mono (indexC (D := D + 1) (st := st) hL hn hN (show G.2.2.2.2 + L.2.2 ≤ n by omega) hgs (by omega) (by omega) hpla (expC hL hn hN (by omega) hgs hst 42 M' (by omega)) hKD h hB (by omega) hk hq (fun w => h0 (by rw [hres, w]; rfl))) (fun r1 z hz => ?_))
  cases hr : yIndex x n (yE x n tc G L 42) G k pla ns tk c with
  | error e =>
    obtain ⟨he0, hd, hf⟩ := hz.1 e hr
    rw [hr, xb_e] at hres
    rw [passD hd, obd_s]
    exact dead e _ z r1 hres he0 hd (by omega) (by unfold EBc; omega) (fR_trans (fX_R hqq hF) hf)
  | ok v =>
    obtain ⟨A, tk', c'⟩ := v
    have hkd : kdOf G k = 1 := by
      unfold yIndex at hr
      by_cases e : kdOf G k = 1
      · exact e
      · rw [if_neg e] at hr; cases hr
    obtain ⟨g, rfl⟩ : ∃ g, k = .inr g := by
      cases k with
      | inl j => exact absurd hkd (by show ¬ (0 : Int32) = 1; decide)
      | inr g => exact ⟨g, rfl⟩
    rw [hr, xb_k] at hres
    obtain ⟨s2, hV3, hF3, hc3, hnd3, hcd3, hB3, hP3, hlt3⟩ := hz.2 A tk' c' hr
    have hcA := (crp_cnt A).1 _ _ _ hc3
    have hgA := gl_le A
    have hlen := (gn_len st (nI np) A).2 p
    have hF03 := fX_trans hF hF3 (Nat.le_refl _) (Nat.le_refl _) (Nat.le_refl _)
    have hq6 := hB3.1.1
    have h83 : zI z 2 8 = nI pl := (hF3.1 2 8 (by unfold eI; omega)).trans h8
    have h93 : zI z 2 9 = nI ms := (hF3.1 2 9 (by unfold eI; omega)).trans h9
    have hTp : TD ln q (fun r1 z => obd (fX2_expression ln N (M' + 1) (M' + 1) (56 : Int32) z) (fun r5 σ6 => obd (fX7_come ln N (M' + 1) σ6) (fun _ σ8 => tlIt ln N (M' + 1) (nI (ixC G (.inr g))) r1 r5 σ8))) := fun e b r z hb h => esD hL hN (by omega) hb (hT r) h
    refine passC (Y := fun t3 => xb (yE x n tc G L 42 ns 56 t3 c') (fun v => xb (cm x n v.2.1) (fun t5 => .ok (fN 28 (adOf G (.inr g)).toInt (mnOf G (.inr g)).toInt A v.1 fZ, t5, v.2.2, ms)))) (K := fun r1 z => obd (fX2_expression ln N (M' + 1) (M' + 1) (56 : Int32) z) (fun r5 σ6 => obd (fX7_come ln N (M' + 1) σ6) (fun _ σ8 => tlIt ln N (M' + 1) (nI (ixC G (.inr g))) r1 r5 σ8))) (r := r1) (D := D + 1) hL hn hN (by omega) hTp hV3 hB3 (fX_R hqq hF03) (by decide) hres ?_
    intro t3 hres3 hV4 hF4 hB4 hpl4
    have hF04 := fX_trans hF03 hF4 (by omega) (by omega) (Nat.le_refl _)
    have hc4 := crp_fX hL.1 hF4 (Nat.le_refl _) hc3
    have hcd4 := cdC_fX hL.1 hF4 (by omega) hcd3
    have h84 : zI (cS x n tk'.1 z) 2 8 = nI pl := (hF4.1 2 8 (by unfold eI; omega)).trans h83
    have h94 : zI (cS x n tk'.1 z) 2 9 = nI ms := (hF4.1 2 9 (by unfold eI; omega)).trans h93
    revert hV4 hF04 hc4 hcd4 h84 h94
    generalize cS x n tk'.1 z = s4
    intro hV4 hF04 hc4 hcd4 h84 h94
    refine esC (Y := fun B t5 c'' => .ok (fN 28 (adOf G (.inr g)).toInt (mnOf G (.inr g)).toInt A B fZ, t5, c'', ms)) (D := D + 1) (s0 := s) (p00 := p) (D0 := D) hL hn hN hM (by omega) hgs hst (hT r1) hV4 hB4 hP3 (fX_R hqq hF04) hres3 h0 ?_
    intro B t5 c'' s3 r5 z5 hres5 hV5 hF5 hc5 hnd5 hcd5 hB5 hpl5
    have hcB := (crp_cnt B).1 _ _ _ hc5
    have hgB := gl_le B
    have hlB := (gn_len st (nI np) B).2 (p + (gl A).2)
    have hF05 := fX_trans hF04 hF5 (by omega) (by omega) (Nat.le_refl _)
    have hcA5 := crp_fX hL.1 hF5 (Nat.le_refl _) hc4
    have hcdA5 := cdC_fX hL.1 hF5 (by omega) hcd4
    have h85 : zI z5 2 8 = nI pl := (hF5.1 2 8 (by unfold eI; omega)).trans h84
    have h95 : zI z5 2 9 = nI ms := (hF5.1 2 9 (by unfold eI; omega)).trans h94
    have hq3 := hB5.1.1
    have hq4 := hB5.1.2.1
    have hq5 := hB5.2.2.2.2.1
    have hpz := hB5.2.2.2.2.2
    obtain ⟨m1, m2, -, -, -⟩ := nmL (N := N) (M := M' + 1) (v := 0) hL (by omega) hV5.1.2.2.1 hq
    obtain ⟨-, -, -, v19, -⟩ := hV5.1.2.2.1.2.1 g hq
    unfold tlIt
    rw [m1, obd_s, m2, obd_s, show ixC G (.inr g) = g from rfl, v19, rbC hL.1 hV5.1.2.1.2.2.2.2, addC3 hcc hV5.2.2.2.2.2.2.1 (by omega), obd_s]
    obtain ⟨hV6, hF6⟩ := ck_CV (l := [7, plOf G L (.inr g), G.2.2.2.1 g]) hL hV5
    have hcd6 := ckS_cd (ln := ln) (q := q) (p := p + (gl A).2 + (gl B).2) (σ := z5) (l := [7, plOf G L (.inr g), G.2.2.2.1 g])
    have hcA6 := crp_fX hL.1 hF6 (by omega) hcA5
    have hcB6 := crp_fX hL.1 hF6 (Nat.le_refl _) hc5
    have hcdA6 := cdC_fX hL.1 hF6 (by omega) hcdA5
    have hcdB6 := cdC_fX hL.1 hF6 (by omega) hcd5
    have hF06 := fX_trans hF05 hF6 (by omega) (by omega) (Nat.le_refl _)
    revert hV6 hcd6 hcA6 hcB6 hcdA6 hcdB6 hF06
    generalize ckS ln q z5 (p + (gl A).2 + (gl B).2) [7, plOf G L (.inr g), G.2.2.2.1 g] = s6
    intro hV6 hcd6 hcA6 hcB6 hcdA6 hcdB6 hF06
    rw [rbT hL.1 hV6.1.2.1.2.2.2.1, treeC hL hV6.2.2.2.2.2.1 (by omega), obd_s]
    obtain ⟨hV7, hF7⟩ := ta_CV (k := 16) (a := plOf G L (.inr g)) (b := -1) (d := -1) hL hV6
    rw [rbT hL.1 hV7.1.2.1.2.2.2.1, setPC hL hV7.2.2.2.2.2.1 (by omega) (by omega), obd_s]
    have hV8 := sp_CV (m := s3) (b := r1) (d := G.2.2.2.1 g) (e := r5) hL hV7
    have hF8 : fX q s3 (p + (gl A).2 + (gl B).2 + 3) 0 s6 (spS (taS s6 q s3 16 (plOf G L (.inr g)) (-1) (-1)) q s3 r1 (G.2.2.2.1 g) r5) := spS_fX (fX_ta fX_refl (Nat.le_refl _) hqq) (Nat.le_refl _) hqq
    have hcr : (crp (spS (taS s6 q s3 16 (plOf G L (.inr g)) (-1) (-1)) q s3 r1 (G.2.2.2.1 g) r5) q fnd np (fN 28 (G.2.2.1 g).toInt (G.2.2.2.1 g).toInt A B fZ)).1 s (s3 + 1) (nI s3) := by
      have := crp_sp (τ := s6) (q := q) (fnd := fnd) (np := np) (k := 28) (s := s3) (lo := s) (a := s2) (b := s3) (v := (G.2.2.1 g).toInt) (w := (G.2.2.2.1 g).toInt) (A := A) (B := B) (C := fZ) (x0 := -1) (y0 := -1) (X := r1) (Y := G.2.2.2.1 g) (Z := r5) hqq (by have := hL.2.1; omega) (by omega) (by omega) (Nat.le_refl _) (Or.inl rfl) hcA6 (fun _ => ⟨(Int32.ofInt_toInt _).symm, hcB6, crp_e⟩) (fun e => by omega)
      rw [show cVa fnd np 28 (G.2.2.1 g).toInt = G.2.2.1 g from Int32.ofInt_toInt _] at this
      exact this
    have hgl : (gl (fN 28 (G.2.2.1 g).toInt (G.2.2.2.1 g).toInt A B fZ)).2 = (gl A).2 + ((gl B).2 + 3) := by rw [gl_N]; rfl
    have hF08 := fX_trans hF06 hF8 (by omega) (by omega) (Nat.le_refl _)
    refine wp_s ⟨fun e h' => (by rw [hres5] at h'; cases h'), fun A1 tk1 c1 ms1 h' => ?_⟩
    rw [hres5] at h'
    cases h'
    refine ⟨s3 + 1, ⟨?_, ?_, ?_⟩, fX_T hF08, hcr, ⟨_, _, _, _, _, _, rfl⟩, ?_, ?_, by omega, by omega, nx_sp hqq nx_ta⟩
    · show CV ln q x n tc G L np fnd (-1) t5 c'' ns (s3 + 1) (p + (gl (fN 28 (G.2.2.1 g).toInt (G.2.2.2.1 g).toInt A B fZ)).2) 0 _
      rw [hgl, show p + ((gl A).2 + ((gl B).2 + 3)) = p + (gl A).2 + (gl B).2 + 3 by omega]
      exact hV8
    · exact (hF08.1 2 8 (by unfold eI; omega)).trans ((hF.1 2 8 (by unfold eI; omega)).symm.trans h8)
    · exact (hF08.1 2 9 (by unfold eI; omega)).trans ((hF.1 2 9 (by unfold eI; omega)).symm.trans h9)
    · rw [gn_N]
      show cdC ln q _ p ((gn st (nI np) A).2 p ++ ((gn st (nI np) B).2 (p + ((gn st (nI np) A).2 p).length) ++ [7, Int32.ofInt (G.2.2.1 g).toInt, Int32.ofInt (G.2.2.2.1 g).toInt]))
      rw [Int32.ofInt_toInt, Int32.ofInt_toInt, hlen]
      refine cdC_app (cdC_fX hqq hF8 (by omega) hcdA6) ?_
      rw [hlen]
      refine cdC_app (cdC_fX hqq hF8 (by omega) hcdB6) ?_
      rw [hlB]
      exact cdC_fX hqq hF8 (Nat.le_refl _) hcd6
    · show CB n tc t5 c'' ns (s3 + 1) (p + (gl (fN 28 (G.2.2.1 g).toInt (G.2.2.2.1 g).toInt A B fZ)).2) D
      rw [hgl]
      exact ⟨hB5.1, hB5.2.1, hB5.2.2.1, hb4, by omega, by omega⟩
theorem caC {k : Nat ⊕ Nat} {pla : Nat} {tk0 : yTok} {res : Except Int32 (fT × yTok × Nat × Nat)} (hL : LN ln q cc) (hn : n ≤ 512) (hN : 5000 ≤ N) (hM : 43 ≤ M) (hG : G.2.2.2.2 + L.2.2 ≤ tk.2.1) (hgs : gSr G) (hst : ∀ g, g < G.2.2.2.2 → G.2.1 g = 2 → G.2.2.1 g = st g) (h : CV ln q x n tc G L np fnd (-1) tk c ns s p 0 σ) (h8 : zI σ 2 8 = nI pl) (h9 : zI σ 2 9 = nI ms) (hB : CB n tc tk c ns s p (D + 1)) (hP : p ≤ 4 + 20 * (s + D)) (hms : ms ≤ tk.2.1) (hpla : pla ≤ 512) (hk : tk.2.2.1 = 49) (hq : inQ G L k) (hF : fX q s p 0 τ σ) (hpl0 : tk0.2.1 ≤ tk.2.1)
    (hres : res = xb (yCall x n (yE x n tc G L 42) G k pla ns tk c) (fun u => xb (need 56 u.2.1) (fun _ => xb (cm x n u.2.1) (fun t3 => .ok (fN 29 0 0 u.1 fZ fZ, t3, u.2.2, ms))))) (h0 : res ≠ .error 0) :
    wp (fX6_callAlone ln N M (nI (ixC G k)) (nI pla) σ) (SQ ln q x n tc G np fnd st L tk0 ns s p D pl (SBc ns) τ res) := by
  have hqq := hL.1
  have hnl := h.1.1.2.1
  have hp1 := hB.1.1
  have hp2 := hB.1.2.1
  have hb4 := hB.2.2.2.1
  have hlt := tk_ne hB.1 hk (by decide)
  have hSB := (SB_ge (ns := ns)).1
  have hE1 : EBc (ns + 1) + 30 ≤ SBc ns := by unfold SBc EBc; omega
  have hcc : ln (q + 36) ≤ 4096 := by have := hL.2.2.2.2.2.2.2.2.2.2.2; omega
  obtain ⟨M', rfl⟩ : ∃ g, M = g + 1 := ⟨M - 1, by omega⟩
  have hKD := expD (N := N) (M := M' + 1) (d := M') hL hN
  have hT : TD ln q (fun r z => rbd (zR z 2 6) 13 14 (fun q9 => obd (fX0_add ln N (M' + 1) q9 (36 : Int32) z) (fun _ σ11 => rbd (zR σ11 2 5) 11 12 (fun q12 => obd (fX9_add ln N (M' + 1) q12 (17 : Int32) (0 : Int32) r (-1 : Int32) σ11) (fun r13 σ14 => some (r13, σ14)))))) := TD_1 hL
  unfold fX6_callAlone
  refine wp_obd (wp_mono (callC (D := D + 1) (st := st) hL hn hN (show G.2.2.2.2 + L.2.2 ≤ n by omega) hgs hst (by omega) (by omega) hpla (expC hL hn hN (by omega) hgs hst 42 M' (by omega)) hKD h hB (by omega) hk hq (fun w => h0 (by rw [hres, w]; rfl))) (fun r z hz => ?_))
  cases hr : yCall x n (yE x n tc G L 42) G k pla ns tk c with
  | error e =>
    obtain ⟨he0, hd, hf⟩ := hz.1 e hr
    rw [hr, xb_e] at hres
    rw [passD hd, obd_s]
    exact TD_e (r := r) hT hres he0 hd (fR_trans (fX_R hqq hF) hf) (by omega) (by unfold EBc; omega)
  | ok v =>
    obtain ⟨A, tk', c'⟩ := v
    rw [hr, xb_k] at hres
    obtain ⟨s2', hV3, hF3, hc3, hnd3, hcd3, hB3, hP3, hlt3⟩ := hz.2 A tk' c' hr
    have hcA := (crp_cnt A).1 _ _ _ hc3
    have hlen := (gn_len st (nI np) A).2 p
    have hF03 := fX_trans hF hF3 (Nat.le_refl _) (Nat.le_refl _) (Nat.le_refl _)
    have hq6 := hB3.1.1
    refine passC (Y := fun t3 => .ok (fN 29 0 0 A fZ fZ, t3, c', ms)) (K := fun r z => rbd (zR z 2 6) 13 14 (fun q9 => obd (fX0_add ln N (M' + 1) q9 (36 : Int32) z) (fun _ σ11 => rbd (zR σ11 2 5) 11 12 (fun q12 => obd (fX9_add ln N (M' + 1) q12 (17 : Int32) (0 : Int32) r (-1 : Int32) σ11) (fun r13 σ14 => some (r13, σ14)))))) (D := D + 1) hL hn hN (by omega) hT hV3 hB3 (fX_R hqq hF03) (by decide) hres ?_
    intro t4 hres4 hV4 hF4 hB4 hpl4
    have hF04 := fX_trans hF03 hF4 (by omega) (by omega) (Nat.le_refl _)
    have hc4 := crp_fX hL.1 hF4 (Nat.le_refl _) hc3
    have hcd4 := cdC_fX hL.1 hF4 (by omega) hcd3
    revert hV4 hF04 hc4 hcd4
    generalize cS x n tk'.1 z = s4
    intro hV4 hF04 hc4 hcd4
    have hq3 := hB4.1.1
    have hq4 := hB4.1.2.1
    have hq5 := hB4.2.2.2.2.1
    show wp (rbd (zR s4 2 6) 13 14 (fun q9 => obd (fX0_add ln N (M' + 1) q9 (36 : Int32) s4) (fun _ σ11 => rbd (zR σ11 2 5) 11 12 (fun q12 => obd (fX9_add ln N (M' + 1) q12 (17 : Int32) (0 : Int32) r (-1 : Int32) σ11) (fun r13 σ14 => some (r13, σ14)))))) _
    rw [rbC hL.1 hV4.1.2.1.2.2.2.2, addC hcc hV4.2.2.2.2.2.2.1 (by have := hB4.2.2.2.2.2; omega), obd_s]
    obtain ⟨hV5, -⟩ := ck_CV (l := [36]) hL hV4
    rw [rbT hL.1 hV5.1.2.1.2.2.2.1, treeC hL hV5.2.2.2.2.2.1 (by omega), obd_s]
    exact S_fin (k := 29) (v := 0) (w := 0) (l := [36]) hL hn hV4 ((hF04.1 2 8 (by unfold eI; omega)).trans ((hF.1 2 8 (by unfold eI; omega)).symm.trans h8)) ((hF04.1 2 9 (by unfold eI; omega)).trans ((hF.1 2 9 (by unfold eI; omega)).symm.trans h9)) (fX_T hF04) hc4 hcd4 hB4 hP (by omega) (by rw [gl_N]; rfl) (by rw [gn_N]; rfl) (by show 1 ≤ 3; omega) (by omega) (by omega) hres4
/-- an S that begins with a NAME -/
theorem nmC (hL : LN ln q cc) (hn : n ≤ 512) (hN : 5000 ≤ N) (hM : 43 ≤ M) (hG : G.2.2.2.2 + L.2.2 ≤ tk.2.1) (hgs : gSr G) (hst : ∀ g, g < G.2.2.2.2 → G.2.1 g = 2 → G.2.2.1 g = st g) (h : SVc ln q x n tc G np fnd L tk c ns s p pl ms σ) (hB : CB n tc tk c ns s p D) (hP : p ≤ 4 + 20 * (s + D)) (hms : ms ≤ tk.2.1) (hk : tk.2.2.1 = 40) (R : ySrec) (h0 : yNm x n tc G R ns L pl ms tk c ≠ .error 0) :
    wp (bnd (zI σ 1 4) (fun x2 => obd (fX6_startName ln N M σ) (fun r3 σ4 => bnd (zI σ4 1 3) (fun x5 => if x5 = (49 : Int32) then obd (fX6_callAlone ln N M r3 x2 σ4) (fun r6 σ7 => some (r6, σ7)) else if x5 = (53 : Int32) then obd (fX6_itemAssignment ln N M r3 x2 σ4) (fun r8 σ9 => some (r8, σ9)) else if x5 = (57 : Int32) then obd (fX6_assignment ln N M r3 x2 σ4) (fun r10 σ11 => some (r10, σ11)) else obd (fX6_misplaced ln N M σ4) (fun r12 σ13 => some (r12, σ13)))))) (SQ ln q x n tc G np fnd st L tk ns s p D pl (SBc ns) σ (yNm x n tc G R ns L pl ms tk c)) := by
  obtain ⟨h, h8, h9⟩ := h
  have hq := hL.1
  have hB0 := hB
  obtain ⟨b1, b2, b3, b4, b5, b6⟩ := hB
  have hp1 := b1.1
  have hp2 := b1.2.1
  have hlt := tk_ne b1 hk (by decide)
  have hnl := h.1.1.2.1
  have hSB := (SB_ge (ns := ns)).1
  generalize hres : yNm x n tc G R ns L pl ms tk c = res at h0 ⊢
  unfold yNm at hres
  have dead : ∀ e z (r : Int32), res = .error e → e ≠ 0 → DS ln q e 11000 z → fR q σ z → wp (bnd (zI z 1 3) (fun x5 => if x5 = (49 : Int32) then obd (fX6_callAlone ln N M r (nI tk.2.1) z) (fun r6 σ7 => some (r6, σ7)) else if x5 = (53 : Int32) then obd (fX6_itemAssignment ln N M r (nI tk.2.1) z) (fun r8 σ9 => some (r8, σ9)) else if x5 = (57 : Int32) then obd (fX6_assignment ln N M r (nI tk.2.1) z) (fun r10 σ11 => some (r10, σ11)) else obd (fX6_misplaced ln N M z) (fun r12 σ13 => some (r12, σ13)))) (SQ ln q x n tc G np fnd st L tk ns s p D pl (SBc ns) σ res) := by
    intro e z r hr he hd hf
    rw [bnd_e, hd.2.2.1, if_neg (by decide), if_neg (by decide), if_neg (by decide)]
    unfold fX6_misplaced
    rw [failHD hd, obd_s, obd_s]
    exact wp_s (SQ_e hr he hd hf (by omega))
  rw [bnd_e, h.2.1.2.1]
  unfold fX6_startName
  rw [h.2.1.2.2.2.1 hk, findL hL hN (by omega) h.1.2.2.1]
  have hass : ∀ (w : Int32) (z : zSt), (∀ K : Int32 → zSt → Option (Int32 × zSt), obd (fX6_startName_b28 ln N M w z) (fun r3 σ4 => K r3 σ4) = obd (fX1_takeCells ln N M (zI z 1 4) z) (fun _ σ4 => obd (fX7_come ln N M σ4) (fun _ σ6 => K w σ6))) := by
    intro w z K
    unfold fX6_startName_b28
    cases fX1_takeCells ln N M (zI z 1 4) z with
    | none => rfl
    | some v =>
      obtain ⟨u, y⟩ := v
      rw [obd_s, obd_s]
      cases fX7_come ln N M y with
      | none => rfl
      | some w => rfl
  cases hlk : look G L tk.2.2.2 with
  | none =>
    rw [hlk] at hres
    have he0 : (3 : Int32) + 16 * nI tk.2.1 ≠ 0 := er_ne erK3 (by omega)
    have hE := CV_ER (k := 0) hL hn (show G.2.2.2.2 + L.2.2 ≤ n by omega) (show 0 ≤ 512 by omega) h hB0 he0
    show wp (obd (obd (some ((-1 : Int32), σ)) (fun r1 σ2 => if 0 ≤ r1 then fX6_startName_b28 ln N M r1 σ2 else obd (fX7_failHere ln N M (3 : Int32) σ2) (fun _ σ8 => fX6_startName_b28 ln N M r1 σ8))) _) _
    rw [obd_s, if_neg (by decide), failHL h.2.2.1, h.2.1.2.1, obd_s, hass]
    refine wp_obd (wp_mono (takeD hL.1 hE.1) (fun _ u hu => ?_))
    rw [comeD hu.1, obd_s]
    exact dead _ u _ hres.symm he0 hu.1 (fR_trans hE.2 hu.2)
  | some k =>
    rw [hlk] at hres
    have hqk := look_in hlk
    have hix := ix_lt hqk
    show wp (obd (obd (some (nI (ixC G k), σ)) (fun r1 σ2 => if 0 ≤ r1 then fX6_startName_b28 ln N M r1 σ2 else obd (fX7_failHere ln N M (3 : Int32) σ2) (fun _ σ8 => fX6_startName_b28 ln N M r1 σ8))) _) _
    rw [obd_s, if_pos (show (0 : Int32) ≤ nI (ixC G k) from nI_pos' (by omega)), hass, h.2.1.2.1]
    refine stTake (D := D) hL hn (by omega) (by omega) (by omega) h hB0 ?_ ?_
    · intro c1 hfo hV1 hF1 hB1
      simp only [hfo, xb_k] at hres
      revert hV1 hF1
      generalize zsI σ 3 3 (nI (tc - c1)) = s1
      intro hV1 hF1
      refine stCome (D := D) hL hn hN (by omega) (by omega) hV1 hB1 ?_ ?_
      · intro t1 hcm hV2 hF2 hB2 hpl2
        simp only [hcm, xb_k] at hres
        have hF12 := fX_trans hF1 hF2 (Nat.le_refl _) (Nat.le_refl _) (Nat.le_refl _)
        revert hV2 hF12
        generalize cS x n tk.1 s1 = s2
        intro hV2 hF12
        have hq1 := hB2.1.1
        have hq2 := hB2.1.2.1
        have hB2' : CB n tc t1 c1 ns s p (D + 1) := ⟨hB2.1, hB2.2.1, b3, b4, by omega, b6⟩
        have h82 : zI s2 2 8 = nI pl := (hF12.1 2 8 (by unfold eI; omega)).trans h8
        have h92 : zI s2 2 9 = nI ms := (hF12.1 2 9 (by unfold eI; omega)).trans h9
        unfold yAs at hres
        rw [bnd_e, hV2.2.1.2.2.1]
        by_cases k49 : t1.2.2.1 = 49
        · rw [if_neg (by rw [k49]; decide), if_neg (by rw [k49]; decide), if_pos k49] at hres
          rw [if_pos k49]
          exact wp_ret (caC hL hn hN hM (by omega) hgs hst hV2 h82 h92 hB2' hP (by omega) (by omega) k49 hqk hF12 (by omega) hres.symm h0)
        rw [if_neg k49]
        by_cases k53 : t1.2.2.1 = 53
        · rw [if_neg (by rw [k53]; decide), if_pos k53] at hres
          rw [if_pos k53]
          exact wp_ret (itC hL hn hN hM (by omega) hgs hst hV2 h82 h92 hB2' hP (by omega) (by omega) k53 hqk hF12 (by omega) hres.symm h0)
        rw [if_neg k53]
        by_cases k57 : t1.2.2.1 = 57
        · rw [if_pos k57] at hres
          rw [if_pos k57]
          exact wp_ret (asgC hL hn hN hM (by omega) hgs hst hV2 h82 h92 hB2' hP (by omega) (by omega) k57 hqk hF12 (by omega) hres.symm h0)
        · rw [if_neg k57, if_neg k53, if_neg k49] at hres
          rw [if_neg k57]
          unfold fX6_misplaced
          have he0 : (2 : Int32) + 16 * nI t1.2.1 ≠ 0 := er_ne erK2 (by omega)
          have hE := CV_ER (k := 0) hL hn (show G.2.2.2.2 + L.2.2 ≤ n by omega) (show 0 ≤ 512 by omega) hV2 hB2 he0
          rw [failHL hV2.2.2.1, hV2.2.1.2.1, obd_s, obd_s]
          exact wp_s (SQ_e hres.symm he0 hE.1 (fR_trans (fX_R hq hF12) hE.2) (by omega))
      · intro e z hcm he0 hE
        simp only [hcm, xb_e] at hres
        exact dead e z _ hres.symm he0 hE.1 (fR_trans (fX_R hq hF1) hE.2)
    · intro e z hfo he0 hE
      simp only [hfo, xb_e] at hres
      rw [comeD hE.1, obd_s]
      exact dead e z _ hres.symm he0 hE.1 hE.2
end
