/-! THE CLASS: a call, an item, a NAME -/
section
variable {ln : Nat → Nat} {N M q cc : Nat} {x : Nat → Int32} {n tc : Nat} {G : gE} {L : lE} {np : Nat} {fnd st : Nat → Int32} {tk : yTok} {c ns s p t D : Nat} {σ : zSt}
/-- behind the parts of a call -/
theorem c121C {K : Int32 → zSt → Option (Int32 × zSt)} {g pl cnt s0 : Nat} {A : fT} {last : Int32} {τ : zSt} {tk0 : yTok} {res : Except Int32 (fT × yTok × Nat)} (hL : LN ln q cc) (hn : n ≤ 512) (hN : 5000 ≤ N) (hG : G.2.2.2.2 + L.2.2 ≤ n) (ht : t ≤ 512) (hpl : pl ≤ 512) (hg : g < G.2.2.2.2) (hst : G.2.2.1 g = st g) (hg2 : G.2.1 g = 2) (hcn : cnt ≤ 512)
    (h : CV ln q x n tc G L np fnd (-1) tk c (ns + 1) s (p + (gl A).2) t σ) (hB : CB n tc tk c (ns + 1) s (p + (gl A).2) (D + 1)) (hP : p ≤ 4 + 20 * (s0 + D)) (hF : fX q s0 p t τ σ) (hs0 : s0 ≤ s) (hc : (crp σ q fnd np A).2 (-1) s0 s last) (hcd : cdC ln q σ p ((gn st (nI np) A).2 p)) (hk : tk.2.2.1 = 50) (hp0 : tk0.2.1 < tk.2.1)
    (hres : res = if nI cnt = G.2.2.2.1 g then xb (cm x n tk) (fun t4 => .ok (fN 9 g cnt A fZ fZ, t4, c)) else er 6 pl) :
    wp (fX2_call_b121 ln N M K (nI g) (nI pl) (nI cnt) last σ) (BQ ln q x n tc G L np fnd st tk0 ns s0 p t D (EBc (ns + 1) + 10) τ res) := by
  have hEB := EB_ge (ns := ns + 1)
  have hcc : ln (q + 36) ≤ 4096 := by have := hL.2.2.2.2.2.2.2.2.2.2.2; omega
  have hnl := h.1.1.2.1
  have hlen := (gn_len st (nI np) A).2 p
  have hcnt := (crp_cnt A).2 _ _ _ _ hc
  have hgle := gl_le A
  obtain ⟨b1, b2, b3, b4, b5, b6⟩ := hB
  have hB : CB n tc tk c (ns + 1) s (p + (gl A).2) (D + 1) := ⟨b1, b2, b3, b4, b5, b6⟩
  have hp1 := b1.1
  have hp2 := b1.2.1
  have hlt := tk_ne b1 hk (by decide)
  have hq : inQ G L (.inr g) := hg
  obtain ⟨n1, n2, n3, -, -⟩ := nmL (N := N) (M := M) (v := 0) hL (by omega) h.1.2.2.1 hq
  obtain ⟨-, -, -, v19, v20⟩ := h.1.2.2.1.2.1 g hg
  unfold fX2_call_b121
  rw [show nI g = nI (ixC G (.inr g)) from rfl, n2, obd_s, show ixC G (.inr g) = g from rfl, v19]
  by_cases hm : nI cnt = G.2.2.2.1 g
  · rw [if_pos hm]
    rw [if_pos hm] at hres
    unfold fX2_call_b143
    refine stLeave hL h hB ?_
    intro hV1 hF1 hB1
    have hc1 := (crp_frame (fnd' := fnd) hL.1 A).2.1 _ _ _ _ (fun a m a1 a2 a3 a4 => hF1.2.2.2.1 a m (by unfold eA; have := hL.1; omega)) hc
    have hcd1 := cdC_fX hL.1 hF1 (by omega) hcd
    have hF01 := fX_trans hF hF1 hs0 (by omega) (Nat.le_refl _)
    revert hV1 hc1 hcd1 hF01
    generalize zsI σ 3 4 (nI ns) = s1
    intro hV1 hc1 hcd1 hF01
    refine stCome (D := D + 1) hL hn hN hG ht hV1 hB1 ?_ ?_
    · intro t4 hcm hV2 hF2 hB2 hpl4
      rw [hcm, xb_k] at hres
      have hc2 := (crp_frame (fnd' := fnd) hL.1 A).2.1 _ _ _ _ (fun a m a1 a2 a3 a4 => hF2.2.2.2.1 a m (by unfold eA; have := hL.1; omega)) hc1
      have hcd2 := cdC_fX hL.1 hF2 (by omega) hcd1
      have hF02 := fX_trans hF01 hF2 hs0 (by omega) (Nat.le_refl _)
      revert hV2 hc2 hcd2 hF02
      generalize cS x n tk.1 s1 = s2
      intro hV2 hc2 hcd2 hF02
      have hq1 := hB2.1.1
      have hq2 := hB2.1.2.1
      have hq3 := hB2.2.2.2.2.1
      obtain ⟨m1, -, -, -, -⟩ := nmL (N := N) (M := M) (v := 0) hL (by omega) hV2.1.2.2.1 hq
      rw [rbC hL.1 hV2.1.2.1.2.1, show nI g = nI (ixC G (.inr g)) from rfl, m1, obd_s, addC3 hcc hV2.2.2.2.2.2.2.1 (by omega), obd_s]
      obtain ⟨hV3, hF3⟩ := ck_CV (l := [32, plOf G L (.inr g), nI cnt]) hL hV2
      have hcd3 := ckS_cd (ln := ln) (q := q) (p := p + (gl A).2) (σ := s2) (l := [32, plOf G L (.inr g), nI cnt])
      have hc3 := (crp_frame (fnd' := fnd) hL.1 A).2.1 _ _ _ _ (fun a m a1 a2 a3 a4 => hF3.2.2.2.1 a m (by unfold eA; have := hL.1; omega)) hc2
      have hcd2' := cdC_fX hL.1 hF3 (by omega) hcd2
      have hF03 := fX_trans hF02 hF3 hs0 (by omega) (Nat.le_refl _)
      revert hV3 hcd3 hc3 hcd2' hF03
      generalize ckS ln q s2 (p + (gl A).2) [32, plOf G L (.inr g), nI cnt] = s3
      intro hV3 hcd3 hc3 hcd2' hF03
      obtain ⟨-, -, k3, -, -⟩ := nmL (N := N) (M := M) (v := 0) hL (by omega) hV3.1.2.2.1 hq
      obtain ⟨-, -, -, -, w20⟩ := hV3.1.2.2.1.2.1 g hg
      rw [rbT hL.1 hV3.1.2.1.1, k3, obd_s, show ixC G (.inr g) = g from rfl, w20 hg2, treeC hL hV3.2.2.2.2.2.1 (by omega), obd_s]
      obtain ⟨hV4, hF4⟩ := ta_CV (k := 8) (a := fnd g) (b := last) (d := -1) hL hV3
      have hgl : (gl (fN 9 g cnt A fZ fZ)).2 = (gl A).2 + 3 := by rw [gl_N]; rfl
      refine wp_s ⟨fun e h' => (by rw [hres] at h'; cases h'), fun A1 tk1 c1 h' => ?_⟩
      rw [hres] at h'
      cases h'
      rw [hgl]
      refine ⟨s + 1, hV4, fX_trans hF03 hF4 hs0 (by omega) (Nat.le_refl _), ?_, ⟨_, _, _, _, _, _, rfl⟩, ?_, ⟨hB2.1, hB2.2.1, b3, by omega, by omega, by omega⟩, by omega, by omega⟩
      · exact crp_mk (k := 9) (v := (g : Int)) (w := (cnt : Int)) hL.1 (by have := hL.2.1; omega) hs0 (Nat.le_refl _) (Nat.le_refl _) (by omega) (by omega) (fun e => absurd rfl e) (fun _ => hc3) (fun e => by omega) (fun _ => crp_e) isZ_Z rfl
      · rw [gn_N]
        show cdC ln q _ p ((gn st (nI np) A).2 p ++ [32, st (g : Int).toNat, Int32.ofInt cnt])
        rw [show (g : Int).toNat = g from rfl, ← hst, ofI]
        refine cdC_app (cdC_fX hL.1 hF4 (by show p + _ ≤ p + (gl A).2 + 3; omega) hcd2') ?_
        rw [hlen]
        exact cdC_fX hL.1 hF4 (Nat.le_refl _) hcd3
    · intro e z hcm he0 hE
      rw [hcm, xb_e] at hres
      have hfz := fR_trans (fX_R hL.1 hF01) hE.2
      rw [rbC hL.1 hE.1.2.2.2.1.2.1]
      refine wp_mono (wpE (b1 := 11003) (e := e) (ln := ln) (q := q) (nmD (v := 0) hL hE.1).1 (fun r1 => wpD (addD3 hL (by omega) hE.1) (fun _ u hu => ?_))) (fun r y hy => BQ_e hres he0 hy.1 (fR_trans hfz hy.2) (by omega))
      rw [rbT hL.1 hu.2.2.2.1.1]
      exact wpE (nmD (v := 0) hL hu).2.2.1 (fun r => wp_ret (treeD hL hu))
  · rw [if_neg hm]
    rw [if_neg hm] at hres
    have he0 : (6 : Int32) + 16 * nI pl ≠ 0 := er_ne erK6 (by omega)
    rw [failC _ _ h.2.2.1, obd_s]
    have hE := CV_ER (k := 0) hL hn hG ht h hB he0
    exact wp_mono (call143D hL (by omega) hE.1) (fun r y hy => BQ_e hres he0 hy.1 (fR_trans (fX_R hL.1 hF) (fR_trans hE.2 hy.2)) (by omega))
theorem callC {K : Int32 → zSt → Option (Int32 × zSt)} {R : yRec} {k : Nat ⊕ Nat} {pl : Nat} (hL : LN ln q cc) (hn : n ≤ 512) (hN : 5000 ≤ N) (hG : G.2.2.2.2 + L.2.2 ≤ n) (hgs : gSr G) (hst : ∀ g, g < G.2.2.2.2 → G.2.1 g = 2 → G.2.2.1 g = st g) (ht : t ≤ 11 * (ns + 1)) (ht2 : t ≤ 512) (hpl : pl ≤ 512) (hK : KLv ln q x n tc G L np fnd st R K) (hKD : KDd ln q K) (h : CV ln q x n tc G L np fnd (-1) tk c ns s p t σ) (hB : CB n tc tk c ns s p D) (hP : p ≤ 4 + 20 * (s + D)) (hk : tk.2.2.1 = 49) (hq : inQ G L k) (h0 : yCall x n R G k pl ns tk c ≠ .error 0) :
    wp (fX2_call ln N M K (nI (ixC G k)) (nI pl) σ) (BQ ln q x n tc G L np fnd st tk ns s p t D (EBc (ns + 1) + 10) σ (yCall x n R G k pl ns tk c)) := by
  have hEB := EB_ge (ns := ns + 1)
  have hnl := h.1.1.2.1
  have hlt := tk_ne hB.1 hk (by decide)
  have hp1 := hB.1.1
  have hp2 := hB.1.2.1
  have hb4 := hB.2.2.2.1
  have hb5 := hB.2.2.2.2.1
  generalize hres : yCall x n R G k pl ns tk c = res at h0 ⊢
  unfold yCall at hres
  obtain ⟨-, -, -, n4, -⟩ := nmL (N := N) (M := M) (v := 2) hL (by omega) h.1.2.2.1 hq
  obtain ⟨-, -, v3, -⟩ := srt_v hgs h.1.2.2.1 hq
  unfold fX2_call
  rw [n4, obd_s]
  by_cases hk2 : kdOf G k = 2
  · rw [if_pos (v3.mpr hk2), if_neg (by decide)]
    rw [if_pos hk2] at hres
    obtain ⟨g, rfl⟩ : ∃ g, k = .inr g := by
      cases k with
      | inl j => exact absurd hk2 (by show ¬ (0 : Int32) = 2; decide)
      | inr g => exact ⟨g, rfl⟩
    have hg : g < G.2.2.2.2 := hq
    have hg2 : G.2.1 g = 2 := hk2
    show wp (fX2_call_b21 ln N M K (nI g) (nI pl) σ) _
    have dead : ∀ e z v w b, res = .error e → e ≠ 0 → DS ln q e b z → b + 3 ≤ EBc (ns + 1) + 10 → b < 2 ^ 29 → fR q σ z → wp (fX2_call_b121 ln N M K (nI g) (nI pl) v w z) (BQ ln q x n tc G L np fnd st tk ns s p t D (EBc (ns + 1) + 10) σ res) := fun e z v w b hr he hd hb hb2 hf => wp_mono (call121D hL hb2 hd) (fun r y hy => BQ_e hr he hy.1 (fR_trans hf hy.2) hb)
    unfold fX2_call_b21
    obtain ⟨N', hN'⟩ : ∃ N', N = N' + 1 := ⟨N - 1, by omega⟩
    refine stEnter (D := D) hL hn hG ht2 h hB ?_ ?_
    · intro y hen hV1 hF1 hB1
      rw [hen, xb_k] at hres
      have hns := ne_kk hen
      revert hV1 hF1
      generalize zsI σ 3 4 (nI (ns + 1)) = s1
      intro hV1 hF1
      refine stCome (D := D) hL hn hN hG ht2 hV1 hB1 ?_ ?_
      · intro t2 hcm hV2 hF2 hB2 hpl2
        rw [hcm, xb_k] at hres
        have hF12 := fX_trans hF1 hF2 (Nat.le_refl _) (Nat.le_refl _) (Nat.le_refl _)
        revert hV2 hF12
        generalize cS x n tk.1 s1 = s2
        intro hV2 hF12
        have hq1 := hB2.1.1
        have hq2 := hB2.1.2.1
        have hB2 : CB n tc t2 c (ns + 1) s p (D + 1) := ⟨hB2.1, hB2.2.1, hB2.2.2.1, hB2.2.2.2.1, by omega, hB2.2.2.2.2.2⟩
        rw [bnd_e, bnd_e, hV2.2.1.2.2.1]
        by_cases h50 : t2.2.2.1 = 50
        · rw [if_pos h50]
          rw [if_pos h50, xb_k] at hres
          have := c121C (K := K) (N := N) (M := M) (A := fZ) (g := g) (pl := pl) (cnt := 0) (s0 := s) (last := -1) (τ := σ) (tk0 := tk) (res := res) (D := D) (p := p) (ns := ns) hL hn hN hG ht2 hpl hg (hst g hg hg2) hg2 (by omega) (by rw [gl_isZ isZ_Z]; exact hV2) (by rw [gl_isZ isZ_Z]; exact hB2) hP hF12 (Nat.le_refl _) (by rw [crp_Z]; exact ⟨rfl, rfl⟩) (by rw [gn_isZ isZ_Z]; exact cdC_nil) h50 (by omega) hres.symm
          exact this
        · rw [if_neg h50, bnd_e]
          rw [if_neg h50] at hres
          refine partsC (a := nI g) (pl := nI pl) (ns := ns + 1) (D := D + 1) hL hn hN hG hK hKD (n + 2) t2 c s p 0 N (-1) s2 hV2 hB2 (by omega) ht (by omega) (by omega) (fun z => h0 (by rw [← hres, z]; rfl)) ?_ ?_
          · intro r k tk' c' s' pr' z hres2 hV3 hF3 hc3 hcd3 hB3 hP3 hlt3 h503 hss3 hck3
            rw [hres2, xb_k] at hres
            have hq5 := hB3.1.1
            have hq6 := hB3.1.2.1
            rw [Nat.zero_add] at hck3 ⊢
            exact c121C hL hn hN hG ht2 hpl hg (hst g hg hg2) hg2 (by omega) hV3 hB3 hP (fX_trans hF12 hF3 (Nat.le_refl _) (Nat.le_refl _) (Nat.le_refl _)) hss3 hc3 hcd3 h503 (by omega) hres.symm
          · intro e z v w hres2 he0 hd hf
            rw [hres2, xb_e] at hres
            exact dead e z v w _ hres.symm he0 hd (by omega) (by unfold EBc; omega) (fR_trans (fX_R hL.1 hF12) hf)
      · intro e z hcm he0 hE
        rw [hcm, xb_e] at hres
        have hfz := fR_trans (fX_R hL.1 hF1) hE.2
        rw [bnd_e, bnd_e, hE.1.2.2.1, if_neg (by decide), bnd_e, hN', ← hN']
        rw [show fX2_call_b55 ln N M K N = fX2_call_b55 ln N M K (N' + 1) by rw [← hN']]
        exact wp_mono (call55D hL hKD (by omega) hE.1) (fun r y hy => BQ_e hres.symm he0 hy.1 (fR_trans hfz hy.2) (by omega))
    · intro e z hen he0 hE
      rw [hen, xb_e] at hres
      rw [comeD hE.1, obd_s, bnd_e, bnd_e, hE.1.2.2.1, if_neg (by decide), bnd_e]
      rw [show fX2_call_b55 ln N M K N = fX2_call_b55 ln N M K (N' + 1) by rw [← hN']]
      exact wp_mono (call55D hL hKD (by omega) hE.1) (fun r y hy => BQ_e hres.symm he0 hy.1 (fR_trans hE.2 hy.2) (by omega))
  · rw [if_neg (fun z => hk2 (v3.mp z)), if_pos rfl]
    rw [if_neg hk2] at hres
    have he0 : (5 : Int32) + 16 * nI pl ≠ 0 := er_ne erK5 (by omega)
    rw [failC _ _ h.2.2.1, obd_s]
    have hE := CV_ER (k := 0) hL hn hG ht2 h hB he0
    exact wp_mono (call21D hL (by omega) hKD (by omega) hE.1) (fun r y hy => BQ_e hres.symm he0 hy.1 (fR_trans hE.2 hy.2) (by omega))
end
