/-! THE CLASS: simple S -/
/-- what is left to do where something is wrong: at most 10 cells more -/
def TD (ln : Nat → Nat) (q : Nat) (K : Int32 → zSt → Option (Int32 × zSt)) : Prop := ∀ e b r σ, b < 2 ^ 28 → DS ln q e b σ → wp (K r σ) (fun _ z => DD ln q e (b + 10) σ z)
section
variable {ln : Nat → Nat} {N M q cc : Nat} {x : Nat → Int32} {n tc : Nat} {G : gE} {L : lE} {np : Nat} {fnd st : Nat → Int32} {tk : yTok} {c ns s p D pl ms : Nat} {σ τ : zSt}
theorem TD_e {K : Int32 → zSt → Option (Int32 × zSt)} {e r : Int32} {b b1 : Nat} {res : Except Int32 (fT × yTok × Nat × Nat)} (hK : TD ln q K) (hr : res = .error e) (he : e ≠ 0) (h : DS ln q e b σ) (hf : fR q τ σ) (hb : b + 10 ≤ b1) (hb2 : b < 2 ^ 28) : wp (K r σ) (SQ ln q x n tc G np fnd st L tk ns s p D pl b1 τ res) :=
  wp_mono (hK e b r σ hb2 h) (fun r y hy => SQ_e hr he hy.1 (fR_trans hf hy.2) hb)
/-- E, the token behind it, then K -/
theorem esC {K : Int32 → zSt → Option (Int32 × zSt)} {res : Except Int32 (fT × yTok × Nat × Nat)} {tk0 : yTok} {Y : fT → yTok → Nat → Except Int32 (fT × yTok × Nat × Nat)} {s0 p00 D0 : Nat} (hL : LN ln q cc) (hn : n ≤ 512) (hN : 5000 ≤ N) (hM : 43 ≤ M) (hG : G.2.2.2.2 + L.2.2 ≤ n) (hgs : gSr G) (hst : ∀ g, g < G.2.2.2.2 → G.2.1 g = 2 → G.2.2.1 g = st g) (hTD : TD ln q K) (h : CV ln q x n tc G L np fnd (-1) tk c ns s p 0 σ) (hB : CB n tc tk c ns s p D) (hP : p ≤ 4 + 20 * (s + D)) (hf : fR q τ σ) (hres : res = xb (yE x n tc G L 42 ns 56 tk c) (fun u => xb (cm x n u.2.1) (fun t4 => Y u.1 t4 u.2.2))) (h0 : res ≠ .error 0)
    (hok : ∀ A t4 c' s2 r z, res = Y A t4 c' → CV ln q x n tc G L np fnd (-1) t4 c' ns s2 (p + (gl A).2) 0 z → fX q s p 0 σ z → (crp z q fnd np A).1 s s2 r → isNd A → cdC ln q z p ((gn st (nI np) A).2 p) → CB n tc t4 c' ns s2 (p + (gl A).2) D → tk.2.1 < t4.2.1 → wp (K r z) (SQ ln q x n tc G np fnd st L tk0 ns s0 p00 D0 pl (SBc ns) τ res)) :
    wp (obd (fX2_expression ln N M M (56 : Int32) σ) (fun r5 σ6 => obd (fX7_come ln N M σ6) (fun _ σ8 => K r5 σ8))) (SQ ln q x n tc G np fnd st L tk0 ns s0 p00 D0 pl (SBc ns) τ res) := by
  have hq := hL.1
  have hb4 := hB.2.2.2.1
  have hSE := SB_E (ns := ns) (by omega)
  have hEB := EB_ge (ns := ns)
  obtain ⟨M', rfl⟩ : ∃ g, M = g + 1 := ⟨M - 1, by omega⟩
  refine wp_obd (wp_mono (expC (M := M' + 1) (st := st) hL hn hN hG hgs hst 42 M' (by omega) ns 56 tk c s p 0 D _ h hB hP (by omega) (Or.inr (Or.inr (Or.inr rfl))) (fun w => h0 (by rw [hres, w]; rfl))) (fun r z hz => ?_))
  cases hr : yE x n tc G L 42 ns 56 tk c with
  | error e =>
    obtain ⟨he0, hd, hf2⟩ := hz.1 e hr
    rw [hr, xb_e] at hres
    rw [comeD hd, obd_s]
    exact TD_e hTD hres he0 hd (fR_trans hf hf2) (by omega) (by unfold EBc; omega)
  | ok v =>
    obtain ⟨A, tk', c'⟩ := v
    rw [hr, xb_k] at hres
    obtain ⟨s2, hV3, hF3, hc3, hnd3, hcd3, hB3, hP3, hen, hlt3⟩ := hz.2 A tk' c' hr
    have hcA := (crp_cnt A).1 _ _ _ hc3
    have hlen := (gn_len st (nI np) A).2 p
    have hq6 := hB3.1.1
    refine stCome (D := D) hL hn hN hG (by omega) hV3 hB3 ?_ ?_
    · intro t3 hcm3 hV4 hF4 hB4 hpl4
      rw [show ((A, tk', c') : fT × yTok × Nat).2.1 = tk' from rfl, hcm3, xb_k] at hres
      exact hok A t3 c' s2 r _ hres hV4 (fX_trans hF3 hF4 (by omega) (by omega) (Nat.le_refl _)) (crp_fX hL.1 hF4 (Nat.le_refl _) hc3) hnd3 (cdC_fX hL.1 hF4 (by omega) hcd3) hB4 (by omega)
    · intro e y hcm3 he0 hE
      rw [show ((A, tk', c') : fT × yTok × Nat).2.1 = tk' from rfl, hcm3, xb_e] at hres
      exact TD_e hTD hres he0 hE.1 (fR_trans hf (fR_trans (fX_R hq hF3) hE.2)) (by omega) (by omega)
theorem esD {K : Int32 → zSt → Option (Int32 × zSt)} {e : Int32} {b : Nat} (hL : LN ln q cc) (hN : 5000 ≤ N) (hM : 1 ≤ M) (hb : b < 2 ^ 28) (hTD : TD ln q K) (h : DS ln q e b σ) : wp (obd (fX2_expression ln N M M (56 : Int32) σ) (fun r5 σ6 => obd (fX7_come ln N M σ6) (fun _ σ8 => K r5 σ8))) (fun _ z => DD ln q e (b + 10) σ z) := by
  obtain ⟨M', rfl⟩ : ∃ g, M = g + 1 := ⟨M - 1, by omega⟩
  refine wpD (expD hL hN _ _ _ _ h) (fun r u hu => ?_)
  rw [comeD hu, obd_s]
  exact hTD e b r u hb hu
theorem TD_a {k : Int32 → Int32} {a d : zSt → Int32} {f g : Int32} (hL : LN ln q cc) : TD ln q (fun r z => rbd (zR z 2 6) 13 14 (fun q9 => obd (fX0_addWith ln N M q9 (a z) (d z) z) (fun _ σ11 => rbd (zR σ11 2 5) 11 12 (fun q12 => obd (fX9_add ln N M q12 f g r (-1 : Int32) σ11) (fun r13 σ14 => some (r13, σ14)))))) := by
  intro e b r z hb h
  show wp (rbd (zR z 2 6) 13 14 (fun q9 => obd (fX0_addWith ln N M q9 (a z) (d z) z) (fun _ σ11 => rbd (zR σ11 2 5) 11 12 (fun q12 => obd (fX9_add ln N M q12 f g r (-1 : Int32) σ11) (fun r13 σ14 => some (r13, σ14)))))) _
  rw [rbC hL.1 h.2.2.2.1.2.2.2.2]
  refine wp_mono (wpD (b1 := b + 2) (addD2 hL (by omega) h) (fun _ u hu => ?_)) (fun _ y hy => DD_tr hy fR_refl (by omega))
  rw [rbT hL.1 hu.2.2.2.1.2.2.2.1]
  exact wp_ret (treeD hL hu)
theorem TD_1 {a f g : Int32} (hL : LN ln q cc) : TD ln q (fun r z => rbd (zR z 2 6) 13 14 (fun q9 => obd (fX0_add ln N M q9 a z) (fun _ σ11 => rbd (zR σ11 2 5) 11 12 (fun q12 => obd (fX9_add ln N M q12 f g r (-1 : Int32) σ11) (fun r13 σ14 => some (r13, σ14)))))) := by
  intro e b r z hb h
  show wp (rbd (zR z 2 6) 13 14 (fun q9 => obd (fX0_add ln N M q9 a z) (fun _ σ11 => rbd (zR σ11 2 5) 11 12 (fun q12 => obd (fX9_add ln N M q12 f g r (-1 : Int32) σ11) (fun r13 σ14 => some (r13, σ14)))))) _
  rw [rbC hL.1 h.2.2.2.1.2.2.2.2]
  refine wp_mono (wpD (b1 := b + 1) (addD hL (by omega) h) (fun _ u hu => ?_)) (fun _ y hy => DD_tr hy fR_refl (by omega))
  rw [rbT hL.1 hu.2.2.2.1.2.2.2.1]
  exact wp_ret (treeD hL hu)
/-- ; behind a part, then K -/
theorem passC {K : Int32 → zSt → Option (Int32 × zSt)} {r : Int32} {res : Except Int32 (fT × yTok × Nat × Nat)} {tk0 : yTok} {Y : yTok → Except Int32 (fT × yTok × Nat × Nat)} {s0 p00 D0 : Nat} {kd : Int32} (hL : LN ln q cc) (hn : n ≤ 512) (hN : 5000 ≤ N) (hG : G.2.2.2.2 + L.2.2 ≤ n) (hTD : TD ln q K) (h : CV ln q x n tc G L np fnd (-1) tk c ns s p 0 σ) (hB : CB n tc tk c ns s p D) (hf : fR q τ σ) (hkd : kd ≠ 58) (hres : res = xb (need kd tk) (fun _ => xb (cm x n tk) (fun t4 => Y t4)))
    (hok : ∀ t4, res = Y t4 → CV ln q x n tc G L np fnd (-1) t4 c ns s p 0 (cS x n tk.1 σ) → fX q s p 0 σ (cS x n tk.1 σ) → CB n tc t4 c ns s p D → tk.2.1 < t4.2.1 → wp (K r (cS x n tk.1 σ)) (SQ ln q x n tc G np fnd st L tk0 ns s0 p00 D0 pl (SBc ns) τ res)) :
    wp (obd (fX7_pass ln N M kd σ) (fun _ σ8 => K r σ8)) (SQ ln q x n tc G np fnd st L tk0 ns s0 p00 D0 pl (SBc ns) τ res) := by
  have hq := hL.1
  have hSB := (SB_ge (ns := ns)).1
  unfold fX7_pass
  have hass : obd (obd (fX7_need ln N M kd σ) (fun _ σ2 => obd (fX7_come ln N M σ2) (fun _ σ4 => some ((), σ4)))) (fun _ σ8 => K r σ8) = obd (fX7_need ln N M kd σ) (fun _ σ2 => obd (fX7_come ln N M σ2) (fun _ σ4 => K r σ4)) := by
    cases fX7_need ln N M kd σ with
    | none => rfl
    | some v =>
      obtain ⟨u, z⟩ := v
      rw [obd_s, obd_s]
      cases fX7_come ln N M z with
      | none => rfl
      | some w => rfl
  rw [hass]
  refine stNeed (D := D) hL hn hG (by omega) h hB ?_ ?_
  · intro y hne
    rw [hne, xb_k] at hres
    have hlt := tk_ne hB.1 (need_kk hne) hkd
    refine stCome (D := D) hL hn hN hG (by omega) h hB ?_ ?_
    · intro t4 hcm hV4 hF4 hB4 hpl4
      rw [hcm, xb_k] at hres
      exact hok t4 hres hV4 hF4 hB4 (by omega)
    · intro e z hcm he0 hE
      rw [hcm, xb_e] at hres
      exact TD_e hTD hres he0 hE.1 (fR_trans hf hE.2) (by omega) (by omega)
  · intro e z hne he0 hE
    rw [hne, xb_e] at hres
    rw [comeD hE.1, obd_s]
    exact TD_e hTD hres he0 hE.1 (fR_trans hf hE.2) (by omega) (by omega)
/-- ; alone -/
theorem empC (hL : LN ln q cc) (hn : n ≤ 512) (hN : 5000 ≤ N) (hG : G.2.2.2.2 + L.2.2 ≤ tk.2.1) (h : SVc ln q x n tc G np fnd L tk c ns s p pl ms σ) (hB : CB n tc tk c ns s p D) (hP : p ≤ 4 + 20 * (s + D)) (hms : ms ≤ tk.2.1) (hk : tk.2.2.1 = 56) (R : ySrec) :
    wp (fX6_empty ln N M σ) (SQ ln q x n tc G np fnd st L tk ns s p D pl (SBc ns) σ (yEm x n tc G R ns L pl ms tk c)) := by
  obtain ⟨h, h8, h9⟩ := h
  have hq := hL.1
  have hB0 := hB
  obtain ⟨b1, b2, b3, b4, b5, b6⟩ := hB
  have hp1 := b1.1
  have hp2 := b1.2.1
  have hlt := tk_ne b1 hk (by decide)
  have hnl := h.1.1.2.1
  have hSB := (SB_ge (ns := ns)).1
  generalize hres : yEm x n tc G R ns L pl ms tk c = res
  unfold yEm at hres
  have dead : ∀ e z, res = .error e → e ≠ 0 → DS ln q e 11000 z → fR q σ z → wp (rbd (zR z 2 5) 11 12 (fun q5 => obd (fX9_add ln N M q5 (18 : Int32) (0 : Int32) (-1 : Int32) (-1 : Int32) z) (fun r6 σ7 => some (r6, σ7)))) (SQ ln q x n tc G np fnd st L tk ns s p D pl (SBc ns) σ res) := by
    intro e z hr he hd hf
    rw [rbT hL.1 hd.2.2.2.1.2.2.2.1]
    exact wp_ret (wp_mono (treeD hL hd) (fun r y hy => SQ_e hr he hy.1 (fR_trans hf hy.2) (by omega)))
  unfold fX6_empty
  rw [h.2.1.2.1]
  refine stTake (D := D) hL hn (by omega) (by omega) (by omega) h hB0 ?_ ?_
  · intro c1 hfo hV1 hF1 hB1
    rw [hfo, xb_k] at hres
    revert hV1 hF1
    generalize zsI σ 3 3 (nI (tc - c1)) = s1
    intro hV1 hF1
    refine stCome (D := D) hL hn hN (by omega) (by omega) hV1 hB1 ?_ ?_
    · intro t1 hcm hV2 hF2 hB2 hpl2
      rw [hcm, xb_k] at hres
      have hF12 := fX_trans hF1 hF2 (Nat.le_refl _) (Nat.le_refl _) (Nat.le_refl _)
      revert hV2 hF12
      generalize cS x n tk.1 s1 = s2
      intro hV2 hF12
      have hq1 := hB2.1.1
      have hq2 := hB2.1.2.1
      rw [rbT hL.1 hV2.1.2.1.2.2.2.1, treeC hL hV2.2.2.2.2.2.1 (by omega), obd_s]
      obtain ⟨hV3, hF3⟩ := ta_CV (k := 18) (a := 0) (b := -1) (d := -1) hL hV2
      have hgl : (gl (fN 30 0 0 fZ fZ fZ)).2 = 0 := by rw [gl_N]; rfl
      have hF03 := fX_trans hF12 hF3 (Nat.le_refl _) (Nat.le_refl _) (Nat.le_refl _)
      refine wp_s ⟨fun e h' => (by rw [← hres] at h'; cases h'), fun A1 tk1 c1 ms1 h' => ?_⟩
      rw [← hres] at h'
      cases h'
      rw [hgl]
      refine ⟨s + 1, ⟨hV3, (hF03.1 2 8 (by unfold eI; omega)).trans h8, (hF03.1 2 9 (by unfold eI; omega)).trans h9⟩, fX_T hF03, crp_0 (k := 30) hL.1 (by have := hL.2.1; omega) (by omega), ⟨_, _, _, _, _, _, rfl⟩, ?_, ⟨hB2.1, hB2.2.1, b3, b4, by omega, b6⟩, by omega, by omega, nx_ta⟩
      rw [gn_N]
      exact cdC_nil
    · intro e z hcm he0 hE
      rw [hcm, xb_e] at hres
      exact dead e z hres.symm he0 hE.1 (fR_trans (fX_R hq hF1) hE.2)
  · intro e z hfo he0 hE
    rw [hfo, xb_e] at hres
    rw [comeD hE.1, obd_s]
    exact dead e z hres.symm he0 hE.1 hE.2
/-- print ( E ) ; -/
theorem prC (hL : LN ln q cc) (hn : n ≤ 512) (hN : 5000 ≤ N) (hM : 43 ≤ M) (hG : G.2.2.2.2 + L.2.2 ≤ tk.2.1) (hgs : gSr G) (hst : ∀ g, g < G.2.2.2.2 → G.2.1 g = 2 → G.2.2.1 g = st g) (h : SVc ln q x n tc G np fnd L tk c ns s p pl ms σ) (hB : CB n tc tk c ns s p D) (hP : p ≤ 4 + 20 * (s + D)) (hms : ms ≤ tk.2.1) (hk : tk.2.2.1 = 47) (R : ySrec) (h0 : yPr x n tc G R ns L pl ms tk c ≠ .error 0) :
    wp (fX6_printing ln N M σ) (SQ ln q x n tc G np fnd st L tk ns s p D pl (SBc ns) σ (yPr x n tc G R ns L pl ms tk c)) := by
  obtain ⟨h, h8, h9⟩ := h
  have hq := hL.1
  have hB0 := hB
  obtain ⟨b1, b2, b3, b4, b5, b6⟩ := hB
  have hp1 := b1.1
  have hp2 := b1.2.1
  have hlt := tk_ne b1 hk (by decide)
  have hnl := h.1.1.2.1
  have hSE := SB_E (ns := ns) (by omega)
  have hE1 : EBc (ns + 1) + 20 ≤ SBc ns := by unfold SBc EBc; omega
  have hEB := EB_ge (ns := ns)
  have hcc : ln (q + 36) ≤ 4096 := by have := hL.2.2.2.2.2.2.2.2.2.2.2; omega
  generalize hres : yPr x n tc G R ns L pl ms tk c = res at h0 ⊢
  unfold yPr at hres
  obtain ⟨M', rfl⟩ : ∃ g, M = g + 1 := ⟨M - 1, by omega⟩
  have hKD := expD (N := N) (M := M' + 1) (d := M') hL hN
  have hT : TD ln q (fun r z => rbd (zR z 2 6) 13 14 (fun q9 => obd (fX0_add ln N (M' + 1) q9 (34 : Int32) z) (fun _ σ11 => rbd (zR σ11 2 5) 11 12 (fun q12 => obd (fX9_add ln N (M' + 1) q12 (13 : Int32) (0 : Int32) r (-1 : Int32) σ11) (fun r13 σ14 => some (r13, σ14)))))) := TD_1 hL
  have dbr : ∀ e z, res = .error e → e ≠ 0 → DS ln q e 11000 z → fR q σ z → wp (obd (fX2_bracketed ln N (M' + 1) (fX2_expression ln N (M' + 1) (M' + 1)) z) (fun r5 σ6 => obd (fX7_pass ln N (M' + 1) (56 : Int32) σ6) (fun _ z => rbd (zR z 2 6) 13 14 (fun q9 => obd (fX0_add ln N (M' + 1) q9 (34 : Int32) z) (fun _ σ11 => rbd (zR σ11 2 5) 11 12 (fun q12 => obd (fX9_add ln N (M' + 1) q12 (13 : Int32) (0 : Int32) r5 (-1 : Int32) σ11) (fun r13 σ14 => some (r13, σ14)))))))) (SQ ln q x n tc G np fnd st L tk ns s p D pl (SBc ns) σ res) := by
    intro e z hr he hd hf
    have hbd : wp (fX2_bracketed ln N (M' + 1) (fX2_expression ln N (M' + 1) (M' + 1)) z) (fun _ y => DD ln q e 11000 z y) := by
      unfold fX2_bracketed
      rw [needD hd, obd_s]
      refine wpD (enterD hL.1 hd) (fun _ u hu => ?_)
      rw [comeD hu, obd_s]
      refine wpD (hKD _ _ _ _ hu) (fun r w hw => wpD (leaveD hL.1 hw) (fun _ y hy => ?_))
      rw [comeD hy, obd_s]
      exact wpS hy (Nat.le_refl _)
    refine wp_obd (wp_mono hbd (fun r u hu => ?_))
    rw [passD hu.1, obd_s]
    exact TD_e (r := r) hT hr he hu.1 (fR_trans hf hu.2) (by omega) (by omega)
  unfold fX6_printing
  rw [h.2.1.2.1]
  refine stTake (D := D) hL hn (by omega) (by omega) (by omega) h hB0 ?_ ?_
  · intro c1 hfo hV1 hF1 hB1
    rw [hfo, xb_k] at hres
    revert hV1 hF1
    generalize zsI σ 3 3 (nI (tc - c1)) = s1
    intro hV1 hF1
    refine stCome (D := D) hL hn hN (by omega) (by omega) hV1 hB1 ?_ ?_
    · intro t1 hcm hV2 hF2 hB2 hpl2
      rw [hcm, xb_k] at hres
      have hF12 := fX_trans hF1 hF2 (Nat.le_refl _) (Nat.le_refl _) (Nat.le_refl _)
      have hb25 := hB2.2.2.2.2.1
      have hq1 := hB2.1.1
      revert hV2 hF12
      generalize cS x n tk.1 s1 = s2
      intro hV2 hF12
      refine wp_obd (wp_mono (brC (D := D + 1) (st := st) hL hn hN (show G.2.2.2.2 + L.2.2 ≤ n by omega) (by omega) (by omega) (expC hL hn hN (by omega) hgs hst 42 M' (by omega)) hKD hV2 ⟨hB2.1, hB2.2.1, b3, b4, by omega, b6⟩ (by omega) (fun w => h0 (by rw [← hres, w]; rfl))) (fun r z hz => ?_))
      cases hr : yBr x n (yE x n tc G L 42) ns t1 c1 with
      | error e =>
        obtain ⟨he0, hd, hf⟩ := hz.1 e hr
        rw [hr, xb_e] at hres
        rw [passD hd, obd_s]
        exact TD_e (r := r) hT hres.symm he0 hd (fR_trans (fX_R hq hF12) hf) (by omega) (by unfold EBc; omega)
      | ok v =>
        obtain ⟨A, tk', c'⟩ := v
        rw [hr, xb_k] at hres
        obtain ⟨s2', hV3, hF3, hc3, hnd3, hcd3, hB3, hP3, hlt3⟩ := hz.2 A tk' c' hr
        have hcA := (crp_cnt A).1 _ _ _ hc3
        have hlen := (gn_len st (nI np) A).2 p
        have hF03 := fX_trans hF12 hF3 (Nat.le_refl _) (Nat.le_refl _) (Nat.le_refl _)
        refine passC (Y := fun t3 => .ok (fN 25 0 0 A fZ fZ, t3, c', ms)) (K := fun r z => rbd (zR z 2 6) 13 14 (fun q9 => obd (fX0_add ln N (M' + 1) q9 (34 : Int32) z) (fun _ σ11 => rbd (zR σ11 2 5) 11 12 (fun q12 => obd (fX9_add ln N (M' + 1) q12 (13 : Int32) (0 : Int32) r (-1 : Int32) σ11) (fun r13 σ14 => some (r13, σ14)))))) (D := D + 1) hL hn hN (by omega) hT hV3 hB3 (fX_R hq hF03) (by decide) hres.symm ?_
        intro t4 hres4 hV4 hF4 hB4 hpl4
        have hF04 := fX_trans hF03 hF4 (by omega) (by omega) (Nat.le_refl _)
        have hc4 := crp_fX hL.1 hF4 (Nat.le_refl _) hc3
        have hcd4 := cdC_fX hL.1 hF4 (by omega) hcd3
        revert hV4 hF04 hc4 hcd4
        generalize cS x n tk'.1 z = s4
        intro hV4 hF04 hc4 hcd4
        have hq3 := hB4.1.1
        have hq4 := hB4.1.2.1
        have hq5 := hB4.2.2.2.2.1
        show wp (rbd (zR s4 2 6) 13 14 (fun q9 => obd (fX0_add ln N (M' + 1) q9 (34 : Int32) s4) (fun _ σ11 => rbd (zR σ11 2 5) 11 12 (fun q12 => obd (fX9_add ln N (M' + 1) q12 (13 : Int32) (0 : Int32) r (-1 : Int32) σ11) (fun r13 σ14 => some (r13, σ14)))))) _
        rw [rbC hL.1 hV4.1.2.1.2.2.2.2, addC hcc hV4.2.2.2.2.2.2.1 (by have := hB4.2.2.2.2.2; omega), obd_s]
        obtain ⟨hV5, -⟩ := ck_CV (l := [34]) hL hV4
        rw [rbT hL.1 hV5.1.2.1.2.2.2.1, treeC hL hV5.2.2.2.2.2.1 (by omega), obd_s]
        exact S_fin (k := 25) (v := 0) (w := 0) (l := [34]) hL hn hV4 ((hF04.1 2 8 (by unfold eI; omega)).trans h8) ((hF04.1 2 9 (by unfold eI; omega)).trans h9) (fX_T hF04) hc4 hcd4 hB4 hP (by omega) (by rw [gl_N]; rfl) (by rw [gn_N]; rfl) (by show 1 ≤ 3; omega) (by omega) (by omega) hres4
    · intro e z hcm he0 hE
      rw [hcm, xb_e] at hres
      exact dbr e z hres.symm he0 hE.1 (fR_trans (fX_R hq hF1) hE.2)
  · intro e z hfo he0 hE
    rw [hfo, xb_e] at hres
    rw [comeD hE.1, obd_s]
    exact dbr e z hres.symm he0 hE.1 hE.2
end
