/-! THE CLASS: an item, a NAME in an E -/
section
variable {ln : Nat → Nat} {N M q cc : Nat} {x : Nat → Int32} {n tc : Nat} {G : gE} {L : lE} {np : Nat} {fnd st : Nat → Int32} {tk : yTok} {c ns s p t D : Nat} {σ : zSt}
theorem indexC {K : Int32 → zSt → Option (Int32 × zSt)} {R : yRec} {k : Nat ⊕ Nat} {pl : Nat} (hL : LN ln q cc) (hn : n ≤ 512) (hN : 5000 ≤ N) (hG : G.2.2.2.2 + L.2.2 ≤ n) (hgs : gSr G) (ht : t ≤ 11 * (ns + 1)) (ht2 : t ≤ 512) (hpl : pl ≤ 512) (hK : KLv ln q x n tc G L np fnd st R K) (hKD : KDd ln q K) (h : CV ln q x n tc G L np fnd (-1) tk c ns s p t σ) (hB : CB n tc tk c ns s p D) (hP : p ≤ 4 + 20 * (s + D)) (hk : tk.2.2.1 = 53) (hq : inQ G L k) (h0 : yIndex x n R G k pl ns tk c ≠ .error 0) :
    wp (fX2_index ln N M K (nI (ixC G k)) (nI pl) σ) (BQ ln q x n tc G L np fnd st tk ns s p t D (EBc (ns + 1)) σ (yIndex x n R G k pl ns tk c)) := by
  have hEB := EB_ge (ns := ns + 1)
  have hnl := h.1.1.2.1
  have hlt := tk_ne hB.1 hk (by decide)
  have hp1 := hB.1.1
  have hp2 := hB.1.2.1
  generalize hres : yIndex x n R G k pl ns tk c = res at h0 ⊢
  unfold yIndex at hres
  obtain ⟨-, -, -, n4, -⟩ := nmL (N := N) (M := M) (v := 1) hL (by omega) h.1.2.2.1 hq
  obtain ⟨-, v3, -, -⟩ := srt_v hgs h.1.2.2.1 hq
  have dead : ∀ e z, res = .error e → e ≠ 0 → DS ln q e 11000 z → fR q σ z → wp (obd (K (54 : Int32) z) (fun r7 σ8 => obd (fX1_leave ln N M σ8) (fun _ σ10 => obd (fX7_come ln N M σ10) (fun _ σ12 => some (r7, σ12))))) (BQ ln q x n tc G L np fnd st tk ns s p t D (EBc (ns + 1)) σ res) := by
    intro e z hr he hd hf
    refine wp_obd (wp_mono (hKD _ _ _ _ hd) (fun r u hu => wp_obd (wp_mono (leaveD hL.1 hu.1) (fun _ v hv => ?_))))
    rw [comeD hv.1, obd_s]
    exact wp_s (BQ_e hr he hv.1 (fR_trans hf (fR_trans hu.2 hv.2)) (by omega))
  unfold fX2_index
  rw [n4, obd_s]
  by_cases hk2 : kdOf G k = 1
  · rw [if_pos (v3.mpr hk2), if_neg (by decide)]
    rw [if_pos hk2] at hres
    unfold fX2_index_b21
    refine stEnter (D := D) hL hn hG ht2 h hB ?_ ?_
    · intro y2 hen hV1 hF1 hB1
      rw [hen, xb_k] at hres
      revert hV1 hF1
      generalize zsI σ 3 4 (nI (ns + 1)) = s1
      intro hV1 hF1
      refine stCome (D := D) hL hn hN hG ht2 hV1 hB1 ?_ ?_
      · intro t2 hcm hV2 hF2 hB2 hpl
        rw [hcm, xb_k] at hres
        exact inBr hL hn hN hG ht hK hV2 hB2 hP (Or.inr rfl) (fX_trans hF1 hF2 (Nat.le_refl _) (Nat.le_refl _) (Nat.le_refl _)) (by omega) hres.symm h0
      · intro e z hcm he0 hE
        rw [hcm, xb_e] at hres
        exact dead e z hres.symm he0 hE.1 (fR_trans (fX_R hL.1 hF1) hE.2)
    · intro e z hen he0 hE
      rw [hen, xb_e] at hres
      rw [comeD hE.1, obd_s]
      exact dead e z hres.symm he0 hE.1 hE.2
  · rw [if_neg (fun z => hk2 (v3.mp z)), if_pos rfl]
    rw [if_neg hk2] at hres
    have he0 : (5 : Int32) + 16 * nI pl ≠ 0 := er_ne erK5 (by omega)
    rw [failC _ _ h.2.2.1, obd_s]
    have hE := CV_ER (k := 0) hL hn hG ht2 h hB he0
    exact wp_mono (index21D hL hKD hE.1) (fun r y hy => BQ_e hres.symm he0 hy.1 (fR_trans hE.2 hy.2) (by omega))
theorem BQ_OQ {τ z : zSt} {r : Int32} {b : Nat} {res : Except Int32 (fT × yTok × Nat)} {res2 : Except Int32 (fT × yTok × Nat × Option Nat)} {tk0 : yTok} (hr : res2 = xb res (fun u => .ok (u.1, u.2.1, u.2.2, none))) (h : BQ ln q x n tc G L np fnd st tk ns s p t D b τ res r z) (hb : b ≤ EBc (ns + 1) + 10) (hp : tk0.2.1 ≤ tk.2.1) : OQ ln q x n tc G L np fnd st tk0 ns s p t D τ res2 r z := by
  cases hres : res with
  | error e =>
    rw [hres, xb_e] at hr
    obtain ⟨a, b, d⟩ := h.1 e hres
    exact OQ_e hr a b d hb
  | ok v =>
    obtain ⟨A, tk', c'⟩ := v
    rw [hres, xb_k] at hr
    obtain ⟨s', a1, a2, a3, a4, a5, a6, a7, a8⟩ := h.2 A tk' c' hres
    refine ⟨fun e h' => (by rw [hr] at h'; cases h'), fun A1 tk1 c1 mi h' => ?_⟩
    rw [hr] at h'
    cases h'
    exact ⟨s', a1, a2, a3, a4, a5, a6, a7, (show tk0.2.1 < tk'.2.1 by omega), fun pl h' => (by cases h')⟩
theorem OQ_fR {τ u z : zSt} {r : Int32} {res : Except Int32 (fT × yTok × Nat × Option Nat)} {tk0 : yTok} (hf : fX q s p t τ u) (hq : q = 9 ∨ q = 10) (h : OQ ln q x n tc G L np fnd st tk ns s p t D u res r z) (hp : tk0.2.1 ≤ tk.2.1) : OQ ln q x n tc G L np fnd st tk0 ns s p t D τ res r z := by
  refine ⟨fun e h' => ?_, fun A tk' c' mi h' => ?_⟩
  · obtain ⟨a, b, d⟩ := h.1 e h'
    exact ⟨a, b, fR_trans (fX_R hq hf) d⟩
  · obtain ⟨s', a1, a2, a3, a4, a5, a6, a7, a8, a9⟩ := h.2 A tk' c' mi h'
    exact ⟨s', a1, fX_trans hf a2 (Nat.le_refl _) (Nat.le_refl _) (Nat.le_refl _), a3, a4, a5, a6, a7, by omega, a9⟩
theorem opNameC {K : Int32 → zSt → Option (Int32 × zSt)} {R : yRec} (hL : LN ln q cc) (hn : n ≤ 512) (hN : 5000 ≤ N) (hG : G.2.2.2.2 + L.2.2 ≤ n) (hgs : gSr G) (hst : ∀ g, g < G.2.2.2.2 → G.2.1 g = 2 → G.2.2.1 g = st g) (ht : t ≤ 11 * (ns + 1)) (ht2 : t ≤ 512) (hK : KLv ln q x n tc G L np fnd st R K) (hKD : KDd ln q K) (h : CV ln q x n tc G L np fnd (-1) tk c ns s p t σ) (hB : CB n tc tk c ns s p D) (hP : p ≤ 4 + 20 * (s + D)) (hk : tk.2.2.1 = 40) (h0 : yNamed x n tc R G L ns tk c ≠ .error 0) :
    wp (fX2_named ln N M K σ) (OQ ln q x n tc G L np fnd st tk ns s p t D σ (yNamed x n tc R G L ns tk c)) := by
  have hEB := EB_ge (ns := ns + 1)
  have hnl := h.1.1.2.1
  have hlt := tk_ne hB.1 hk (by decide)
  have hB0 := hB
  obtain ⟨b1, b2, b3, b4, b5, b6⟩ := hB
  have hp1 := b1.1
  have hp2 := b1.2.1
  have hcc : ln (q + 36) ≤ 4096 := by have := hL.2.2.2.2.2.2.2.2.2.2.2; omega
  generalize hres : yNamed x n tc R G L ns tk c = res at h0 ⊢
  unfold yNamed at hres
  unfold fX2_named
  rw [bnd_e, h.2.1.2.2.2.1 hk, h.2.1.2.1, findL hL hN (by omega) h.1.2.2.1, obd_s]
  cases hlk : look G L tk.2.2.2 with
  | none =>
    rw [hlk] at hres
    have he0 : (3 : Int32) + 16 * nI tk.2.1 ≠ 0 := er_ne erK3 (by omega)
    rw [if_neg (show ¬ (0 : Int32) ≤ -1 by decide), failC _ _ h.2.2.1, obd_s]
    have hE := CV_ER (k := 0) hL hn hG ht2 h hB0 he0
    exact wp_mono (named37D hL (by omega) hKD (by omega) hE.1) (fun r y hy => OQ_e hres.symm he0 hy.1 (fR_trans hE.2 hy.2) (by omega))
  | some k =>
    rw [hlk] at hres
    have hq := look_in hlk
    have hix := ix_lt hq
    show wp (if (0 : Int32) ≤ nI (ixC G k) then fX2_named_b37 ln N M K (nI tk.2.1) (nI (ixC G k)) σ else _) _
    rw [if_pos (show (0 : Int32) ≤ nI (ixC G k) from nI_pos' (by omega))]
    unfold fX2_named_b37
    -- told: the rest
    have dead : ∀ e z, res = .error e → e ≠ 0 → DS ln q e 11000 z → fR q σ z → wp (if (zI z 1 3) = (49 : Int32) then obd (fX2_call ln N M K (nI (ixC G k)) (nI tk.2.1) z) (fun r29 σ30 => some (r29, σ30)) else if (zI z 1 3) = (53 : Int32) then (obd (fX2_index ln N M K (nI (ixC G k)) (nI tk.2.1) z) (fun r13 σ14 => rbd (zR σ14 5 9) 13 14 (fun q15 => obd (fX4_placeOf ln N M (nI (ixC G k)) σ14) (fun r16 σ17 => obd (fX4_countOf ln N M (nI (ixC G k)) σ17) (fun r18 σ19 => obd (fX0_addWithTwo ln N M q15 (6 : Int32) r16 r18 σ19) (fun _ σ21 => rbd (zR σ21 5 8) 11 12 (fun q22 => obd (fX4_placeOf ln N M (nI (ixC G k)) σ21) (fun r23 σ24 => obd (fX4_countOf ln N M (nI (ixC G k)) σ24) (fun r25 σ26 => obd (fX9_add ln N M q22 (4 : Int32) r23 r13 r25 σ26) (fun r27 σ28 => some (r27, σ28))))))))))) else (obd (fX4_isValue ln N M (nI (ixC G k)) z) (fun r8 σ9 => if r8 = 0 then bnd (zsI σ9 5 7 (nI tk.2.1)) (fun σ12 => fX2_named_b157 ln N M K (nI (ixC G k)) σ12) else fX2_named_b157 ln N M K (nI (ixC G k)) σ9))) (OQ ln q x n tc G L np fnd st tk ns s p t D σ res) := by
      intro e z hr he hd hf
      rw [hd.2.2.1, if_neg (by decide), if_neg (by decide)]
      have key : wp (obd (fX4_isValue ln N M (nI (ixC G k)) z) (fun r8 σ9 => if r8 = 0 then bnd (zsI σ9 5 7 (nI tk.2.1)) (fun σ12 => fX2_named_b157 ln N M K (nI (ixC G k)) σ12) else fX2_named_b157 ln N M K (nI (ixC G k)) σ9)) (fun _ y => DD ln q e 11002 z y) := by
        unfold fX2_named_b157
        refine wpE (nmD (v := 0) hL hd).2.2.2.2 (fun r => ?_)
        split
        · rw [bnd_e]
          exact wp_ret (wp_mono (varD hL (by omega) (DS_I hL.1 hd (show dI q 5 7 by unfold dI; omega))) (fun _ y hy => DD_tr hy (fR_I fR_refl (by unfold okI; omega)) (Nat.le_refl _)))
        · exact wp_ret (varD hL (by omega) hd)
      exact wp_mono key (fun r y hy => OQ_e hr he hy.1 (fR_trans hf hy.2) (by omega))
    refine stTake (D := D) hL hn hG ht2 (by omega) h hB0 ?_ ?_
    · intro c1 hfo hV1 hF1 hB1
      simp only [hfo, xb_k] at hres
      revert hV1 hF1
      generalize zsI σ 3 3 (nI (tc - c1)) = s1
      intro hV1 hF1
      refine stCome (D := D) hL hn hN hG ht2 hV1 hB1 ?_ ?_
      · intro t1 hcm hV2 hF2 hB2 hpl
        simp only [hcm, xb_k] at hres
        have hF12 := fX_trans hF1 hF2 (Nat.le_refl _) (Nat.le_refl _) (Nat.le_refl _)
        revert hV2 hF12
        generalize cS x n tk.1 s1 = s2
        intro hV2 hF12
        have hq1 := hB2.1.1
        have hq2 := hB2.1.2.1
        have hB2' : CB n tc t1 c1 ns s p (D + 1) := ⟨hB2.1, hB2.2.1, b3, b4, by omega, b6⟩
        rw [hV2.2.1.2.2.1]
        by_cases h49 : t1.2.2.1 = 49
        · rw [if_pos h49]
          rw [if_pos h49] at hres
          refine wp_ret (wp_mono (callC hL hn hN hG hgs hst ht ht2 (by omega) hK hKD hV2 hB2 hP h49 hq (fun z => h0 (by rw [← hres, z]; rfl))) (fun r z hz => ?_))
          exact OQ_fR hF12 hL.1 (BQ_OQ hres.symm hz (Nat.le_refl _) (Nat.le_refl _)) (by omega)
        rw [if_neg h49]
        rw [if_neg h49] at hres
        by_cases h53 : t1.2.2.1 = 53
        · rw [if_pos h53]
          rw [if_pos h53] at hres
          refine wp_obd (wp_mono (indexC (D := D + 1) hL hn hN hG hgs ht ht2 (by omega) hK hKD hV2 hB2' (by omega) h53 hq (fun z => h0 (by rw [← hres, z]; rfl))) (fun r z hz => ?_))
          cases hy : yIndex x n R G k tk.2.1 ns t1 c1 with
          | error e =>
            rw [hy, xb_e] at hres
            obtain ⟨he0, hd, hf⟩ := hz.1 e hy
            exact wp_mono (itemD hL (by unfold EBc; omega) hd) (fun r y hy => OQ_e hres.symm he0 hy.1 (fR_trans (fX_R hL.1 hF12) (fR_trans hf hy.2)) (by omega))
          | ok v =>
            obtain ⟨A, tk', c'⟩ := v
            rw [hy, xb_k] at hres
            obtain ⟨s', hV3, hF3, hc3, hnd3, hcd3, hB3, hP3, hlt3⟩ := hz.2 A tk' c' hy
            have hlen := (gn_len st (nI np) A).2 p
            have hcnt := (crp_cnt A).1 _ _ _ hc3
            have hgle := gl_le A
            have hq3 := hB3.1.1
            have hq4 := hB3.1.2.1
            have hq5 := hB3.2.2.2.2.1
            have hkd : kdOf G k = 1 := by
              unfold yIndex at hy
              by_cases e : kdOf G k = 1
              · exact e
              · rw [if_neg e] at hy; cases hy
            obtain ⟨g, rfl⟩ : ∃ g, k = .inr g := by
              cases k with
              | inl j => exact absurd hkd (by show ¬ (0 : Int32) = 1; decide)
              | inr g => exact ⟨g, rfl⟩
            obtain ⟨m1, m2, -, -, -⟩ := nmL (N := N) (M := M) (v := 0) hL (by omega) hV3.1.2.2.1 hq
            obtain ⟨-, -, -, v19, -⟩ := hV3.1.2.2.1.2.1 g hq
            rw [rbC hL.1 hV3.1.2.1.2.1, m1, obd_s, m2, obd_s, show ixC G (.inr g) = g from rfl, v19, addC3 hcc hV3.2.2.2.2.2.2.1 (by have := hB3.2.2.2.2.2; omega), obd_s]
            obtain ⟨hV4, hF4⟩ := ck_CV (l := [6, plOf G L (.inr g), G.2.2.2.1 g]) hL hV3
            have hcd4 := ckS_cd (ln := ln) (q := q) (p := p + (gl A).2) (σ := z) (l := [6, plOf G L (.inr g), G.2.2.2.1 g])
            have hc4 := crp_fX hL.1 hF4 (Nat.le_refl _) hc3
            have hcd3' := cdC_fX hL.1 hF4 (by omega) hcd3
            have hF04 := fX_trans (fX_trans hF12 hF3 (Nat.le_refl _) (Nat.le_refl _) (Nat.le_refl _)) hF4 (by omega) (by omega) (Nat.le_refl _)
            revert hV4 hcd4 hc4 hcd3' hF04
            generalize ckS ln q z (p + (gl A).2) [6, plOf G L (.inr g), G.2.2.2.1 g] = s4
            intro hV4 hcd4 hc4 hcd3' hF04
            obtain ⟨k1, k2, -, -, -⟩ := nmL (N := N) (M := M) (v := 0) hL (by omega) hV4.1.2.2.1 hq
            obtain ⟨-, -, -, w19, -⟩ := hV4.1.2.2.1.2.1 g hq
            rw [rbT hL.1 hV4.1.2.1.1, show nI g = nI (ixC G (.inr g)) from rfl, k1, obd_s, k2, obd_s, show ixC G (.inr g) = g from rfl, w19, treeC hL hV4.2.2.2.2.2.1 (by omega), obd_s]
            obtain ⟨hV5, hF5⟩ := ta_CV (k := 4) (a := plOf G L (.inr g)) (b := r) (d := G.2.2.2.1 g) hL hV4
            have hgl : (gl (fN 4 (G.2.2.1 g).toInt (G.2.2.2.1 g).toInt A fZ fZ)).2 = (gl A).2 + 3 := by rw [gl_N]; rfl
            refine wp_s ⟨fun e h' => (by rw [← hres] at h'; cases h'), fun A1 tk1 c1' mi h' => ?_⟩
            rw [← hres] at h'
            cases h'
            show ∃ s', CV ln q x n tc G L np fnd (-1) tk' c' ns s' (p + (gl (fN 4 (G.2.2.1 g).toInt (G.2.2.2.1 g).toInt A fZ fZ)).2) t _ ∧ _
            refine ⟨s' + 1, by rw [hgl]; exact hV5, fX_trans hF04 hF5 (by omega) (by omega) (Nat.le_refl _), ?_, ⟨_, _, _, _, _, _, rfl⟩, ?_, by rw [show (gl (fN 4 (adOf G (.inr g)).toInt (mnOf G (.inr g)).toInt A fZ fZ)).2 = (gl A).2 + 3 from hgl]; exact ⟨hB3.1, hB3.2.1, b3, b4, (show s' + 1 + D ≤ tk'.2.1 by omega), by omega⟩, by rw [show (gl (fN 4 (adOf G (.inr g)).toInt (mnOf G (.inr g)).toInt A fZ fZ)).2 = (gl A).2 + 3 from hgl]; omega, (show tk.2.1 < tk'.2.1 by omega), fun pl h' => (by cases h')⟩
            · have := crp_mk (τ := s4) (q := q) (s := s') (fnd := fnd) (np := np) (k := 4) (v := (G.2.2.1 g).toInt) (w := (G.2.2.2.1 g).toInt) (lo := s) (a := s') (b := s') (A := A) (B := fZ) (C := fZ) (x := r) (y := G.2.2.2.1 g) hL.1 (by have := hL.2.1; omega) (by omega) (Nat.le_refl _) (Nat.le_refl _) (by omega) (by omega) (fun _ => hc4) (fun e => by omega) (fun _ => ⟨crp_e, (Int32.ofInt_toInt _).symm⟩) (fun e => absurd rfl e) isZ_Z rfl
              rw [show cVa fnd np 4 (G.2.2.1 g).toInt = G.2.2.1 g from Int32.ofInt_toInt _] at this
              exact this
            · rw [gn_N]
              show cdC ln q _ p ((gn st (nI np) A).2 p ++ [6, Int32.ofInt (G.2.2.1 g).toInt, Int32.ofInt (G.2.2.2.1 g).toInt])
              rw [Int32.ofInt_toInt, Int32.ofInt_toInt]
              refine cdC_app (cdC_fX hL.1 hF5 (by show p + _ ≤ p + (gl A).2 + 3; omega) hcd3') ?_
              rw [hlen]
              exact cdC_fX hL.1 hF5 (Nat.le_refl _) hcd4
        rw [if_neg h53]
        rw [if_neg h53] at hres
        obtain ⟨-, -, -, -, n5⟩ := nmL (N := N) (M := M) (v := 0) hL (by omega) hV2.1.2.2.1 hq
        obtain ⟨v1, -, -, -⟩ := srt_v hgs hV2.1.2.2.1 hq
        rw [n5, obd_s]
        unfold fX2_named_b157
        by_cases hv : kdOf G k = 0
        · rw [if_pos (v1.mpr hv), if_neg (by decide)]
          rw [if_pos hv] at hres
          obtain ⟨z, z1, z2, z3, z4, z5, z6, z7⟩ := varC (N := N) (M := M) (st := st) hL hgs (by omega) hV2 (by omega) (by omega) hq
          rw [z1, obd_s]
          refine wp_s ⟨fun e h' => (by rw [← hres] at h'; cases h'), fun A1 tk1 c1' mi h' => ?_⟩
          rw [← hres] at h'
          cases h'
          refine ⟨s + 1, z2, fX_trans hF12 z3 (Nat.le_refl _) (Nat.le_refl _) (Nat.le_refl _), z4, z5, z6, ?_, by rw [z7]; omega, by omega, fun pl h' => (by cases h')⟩
          rw [z7]
          exact ⟨hB2.1, hB2.2.1, b3, b4, by omega, by omega⟩
        · rw [if_neg (fun z => hv (v1.mp z)), if_pos rfl, bnd_e]
          rw [if_neg hv] at hres
          have hV2' : CV ln q x n tc G L np fnd (nI tk.2.1) t1 c1 ns s p t (zsI s2 5 7 (nI tk.2.1)) := by
            have hq9 := hL.1
            obtain ⟨k1, k2, k3, k4, k5⟩ := hV2.2.1
            refine ⟨CS_fX hL.1 (fX_I (s := 0) (p := 0) (t := 0) fX_refl (by unfold eI; omega)) hV2.1, ⟨?_, ?_, ?_, k4, k5⟩, ?_, ?_, ?_, ?_, ?_, ?_, by rw [zI_I, if_pos ⟨rfl, rfl⟩]⟩
            all_goals rw [zI_I, if_neg (by omega)]
            · exact k1
            · exact k2
            · exact k3
            · exact hV2.2.2.1
            · exact hV2.2.2.2.1
            · exact hV2.2.2.2.2.1
            · exact hV2.2.2.2.2.2.1
            · exact hV2.2.2.2.2.2.2.1
            · exact hV2.2.2.2.2.2.2.2.1
          have hF23 : fX q s p t σ (zsI s2 5 7 (nI tk.2.1)) := fX_I hF12 (by unfold eI; omega)
          revert hV2' hF23
          generalize zsI s2 5 7 (nI tk.2.1) = s3
          intro hV2' hF23
          obtain ⟨z, z1, z2, z3, z4, z5, z6, z7⟩ := varC (N := N) (M := M) (st := st) hL hgs (by omega) hV2' (by omega) (by omega) hq
          rw [z1, obd_s]
          refine wp_s ⟨fun e h' => (by rw [← hres] at h'; cases h'), fun A1 tk1 c1' mi h' => ?_⟩
          rw [← hres] at h'
          cases h'
          refine ⟨s + 1, z2, fX_trans hF23 z3 (Nat.le_refl _) (Nat.le_refl _) (Nat.le_refl _), z4, z5, z6, ?_, by rw [z7]; omega, by omega, fun pl h' => (by cases h'; omega)⟩
          rw [z7]
          exact ⟨hB2.1, hB2.2.1, b3, b4, by omega, by omega⟩
      · intro e z hcm he0 hE
        simp only [hcm, xb_e] at hres
        exact dead e z hres.symm he0 hE.1 (fR_trans (fX_R hL.1 hF1) hE.2)
    · intro e z hfo he0 hE
      simp only [hfo, xb_e] at hres
      rw [comeD hE.1, obd_s]
      exact dead e z hres.symm he0 hE.1 hE.2
end
