/-! THE CLASS: the loop over a BLOCK -/
section
variable {ln : Nat → Nat} {N M q cc : Nat} {x : Nat → Int32} {n tc : Nat} {G : gE} {L L0 : lE} {np : Nat} {fnd st : Nat → Int32} {mu : Int32} {tk : yTok} {c ns ns0 s p t D pl pl0 ms : Nat} {σ τ : zSt}
theorem itemsC {K : zSt → Option (Int32 × zSt)} {R : ySrec} (hL : LN ln q cc) (hn : n ≤ 512) (hN : 5000 ≤ N) (hM : 43 ≤ M) (hgs : gSr G) (hst : ∀ g, g < G.2.2.2.2 → G.2.1 g = 2 → G.2.2.1 g = st g) (hKv : KSv ln q x n tc G np fnd st R K) : ∀ f, BKp ln q x n tc G np fnd st N M K R L0 ns0 pl0 f := by
  intro f
  induction f with
  | zero => intro dc L pl ms tk c s p D i m x3 x4 τ _ _ _ _ _ _ _ _ _ _ h0; exact absurd rfl h0
  | succ f ih =>
    intro dc L pl ms tk c s p D i m x3 x4 τ h hB hP hpre hG hpm hms hi hm hx h0
    have hB0 := hB
    obtain ⟨b1, b2, b3, b4, b5, b6⟩ := hB
    have hp1 := b1.1
    have hp2 := b1.2.1
    have hS1 : SBc (ns0 + 1) + 50 ≤ SBc ns0 := by unfold SBc; omega
    obtain ⟨m, rfl⟩ : ∃ g, m = g + 1 := ⟨m - 1, by omega⟩
    rw [fX6_block_b31, h.1.1.1.1, if_neg (fun w => by rw [nI_ltI (by omega) (by omega)] at w; omega), h.1.2.1.2.2.1]
    by_cases h52 : tk.2.2.1 = 52
    · rw [if_pos h52, yItems_52 h52]
      exact b142C hL hn hN h hB0 hpre hG hms h52 hx rfl
    · rw [if_neg h52, if_neg b1.2.2.2]
      by_cases hd : dc = true ∧ tk.2.2.1 = 42
      · rw [yItems_loc h52 hd] at h0 ⊢
        obtain ⟨rfl, h42⟩ := hd
        rw [if_neg (show ¬ b01 true = 0 by decide), if_pos h42]
        unfold fX6_block_b88
        rw [if_neg (by decide)]
        generalize hres : yCl x n (xb (yLoc x n tc G L0.2.2 (ns0 + 1) L tk c) (fun v => xb (yItems x n tc G R f true L0.2.2 (ns0 + 1) (lAdd L v.2.1 (nI pl)) (pl + 1) (max ms (pl + 1)) v.2.2.1 v.2.2.2) (fun r => .ok (fC (fN 21 pl 0 v.1 fZ fZ) r.1, r.2)))) = res at h0 ⊢
        refine wp_obd (wp_mono (localC (N := N) (M := M) (st := st) hL hn hN hM hG hgs hst hpre.1 h hB0 hP hpm hms h42 (fun w => h0 (by rw [← hres, w]; rfl))) (fun r u hu => ?_))
        cases hr : yLoc x n tc G L0.2.2 (ns0 + 1) L tk c with
        | error e =>
          obtain ⟨he0, hd, hf⟩ := hu.1 e hr
          rw [hr, xb_e] at hres
          exact wp_mono (b107D hL (by omega) hd) (fun r y hy => BKq_e hres.symm he0 hy.1 (fR_trans hf hy.2) (by omega))
        | ok v =>
          obtain ⟨A, w, t5, c'⟩ := v
          rw [hr, xb_k] at hres
          obtain ⟨s1, u1, u2, u3, u4, u5, u6, u7⟩ := hu.2 A w t5 c' hr
          have hpl := hpre.1
          exact itStep (dc' := true) hL hn ih u1 u5 hP (fSt_trans u2 (fSt_refl (nn := G.2.2.2.2 + L.2.2)) (Nat.le_refl _) (Nat.le_refl _) (Nat.le_refl _) |> fun (h : fSt q s p (G.2.2.2.2 + L.2.2) τ u) => fSt_trans (fSt_refl (nn := G.2.2.2.2 + L0.2.2)) h (Nat.le_refl _) (Nat.le_refl _) (by omega)) u3 ⟨_, _, _, _, _, _, rfl⟩ u4 u6 (by omega) u7 (lpre_add hpre) (by show G.2.2.2.2 + (L.2.2 + 1) ≤ _; omega) (by omega) hi (by omega) hx hres.symm h0
      · rw [yItems_st h52 hd] at h0 ⊢
        have hpth : (if b01 dc = 0 then fX6_block_b87 ln N M K (fX6_block_b31 ln N M K m) (nI (G.2.2.2.2 + L0.2.2)) (nI pl0) x3 x4 (nI i) τ else if tk.2.2.1 = 42 then fX6_block_b88 ln N M K (fX6_block_b31 ln N M K m) (nI (G.2.2.2.2 + L0.2.2)) (nI pl0) x3 x4 (nI i) 1 τ else fX6_block_b87 ln N M K (fX6_block_b31 ln N M K m) (nI (G.2.2.2.2 + L0.2.2)) (nI pl0) x3 x4 (nI i) τ) = fX6_block_b87 ln N M K (fX6_block_b31 ln N M K m) (nI (G.2.2.2.2 + L0.2.2)) (nI pl0) x3 x4 (nI i) τ := by
          cases dc with
          | false => rw [if_pos (show b01 false = 0 by decide)]
          | true => rw [if_neg (show ¬ b01 true = 0 by decide), if_neg (fun w => hd ⟨rfl, w⟩)]
        rw [hpth]
        unfold fX6_block_b87 fX6_block_b88
        rw [if_pos rfl]
        generalize hres : yCl x n (xb (R (ns0 + 1) L pl ms tk c) (fun s => xb (yItems x n tc G R f false L0.2.2 (ns0 + 1) L pl s.2.2.2 s.2.1 s.2.2.1) (fun r => .ok (fC s.1 r.1, r.2)))) = res at h0 ⊢
        refine wp_obd (wp_mono (hKv (ns0 + 1) L pl ms tk c s p D τ h hB0 hP hG hpm hms (fun w => h0 (by rw [← hres, w]; rfl))) (fun r u hu => ?_))
        cases hr : R (ns0 + 1) L pl ms tk c with
        | error e =>
          obtain ⟨he0, hd, hf⟩ := hu.1 e hr
          rw [hr, xb_e] at hres
          exact wp_mono (b107D hL (by omega) hd) (fun r y hy => BKq_e hres.symm he0 hy.1 (fR_trans hf hy.2) (by omega))
        | ok v =>
          obtain ⟨A, t5, c', ms'⟩ := v
          rw [hr, xb_k] at hres
          obtain ⟨s1, u1, u2, u3, u4, u5, u6, u7, u8, u9⟩ := hu.2 A t5 c' ms' hr
          have hpl := hpre.1
          exact itStep (dc' := false) hL hn ih u1 u6 hP (fSt_trans (fSt_refl (nn := G.2.2.2.2 + L0.2.2)) u2 (Nat.le_refl _) (Nat.le_refl _) (by omega)) u3 u4 u5 u7 u8 u9 hpre (by omega) (by omega) hi (by omega) hx hres.symm h0
/-- a BLOCK, from its opening bracket on; the bracket has been counted -/
theorem blkC {K : zSt → Option (Int32 × zSt)} {R : ySrec} (hL : LN ln q cc) (hn : n ≤ 512) (hN : 5000 ≤ N) (hM : 43 ≤ M) (hgs : gSr G) (hst : ∀ g, g < G.2.2.2.2 → G.2.1 g = 2 → G.2.2.1 g = st g) (hKv : KSv ln q x n tc G np fnd st R K) (hKS : KSD ln q K) (h : SVc ln q x n tc G np fnd L tk c (ns + 1) s p pl ms σ) (hB : CB n tc tk c (ns + 1) s p D) (hP : p ≤ 4 + 20 * (s + D)) (hG : G.2.2.2.2 + L.2.2 ≤ tk.2.1) (hpm : pl ≤ tk.2.1) (hms : ms ≤ tk.2.1) (hk : tk.2.2.1 = 51) (h0 : yBlock x n tc G R ns L pl ms tk c ≠ .error 0) :
    wp (fX6_block ln N M K σ) (BKq ln q x n tc G np fnd st L tk ns s p (D + 1) pl 0 (-1) σ (yBlock x n tc G R ns L pl ms tk c)) := by
  have hq := hL.1
  have hB0 := hB
  obtain ⟨b1, b2, b3, b4, b5, b6⟩ := hB
  have hp1 := b1.1
  have hp2 := b1.2.1
  have hlt := tk_ne b1 hk (by decide)
  have hSB := (SB_ge (ns := ns)).1
  obtain ⟨h, h8, h9⟩ := h
  generalize hres : yBlock x n tc G R ns L pl ms tk c = res at h0 ⊢
  unfold yBlock at hres
  unfold fX6_block
  rw [bnd_e, h.1.2.2.1.1, bnd_e, h8, bnd_e, bnd_e, bnd_e]
  refine stCome (D := D) hL hn hN (by omega) (by omega) h hB0 ?_ ?_
  · intro t1 hcm hV1 hF1 hB1 hpl1
    rw [hcm, xb_k] at hres
    rw [bnd_e]
    have hq1 := hB1.1.1
    have hq2 := hB1.1.2.1
    have hgo := itemsC (L0 := L) (ns0 := ns) (pl0 := pl) hL hn hN hM hgs hst hKv (n + 2) true L pl ms t1 c s p (D + 1) 0 N (-1) (-1) (cS x n tk.1 σ) ⟨hV1, (hF1.1 2 8 (by unfold eI; omega)).trans h8, (hF1.1 2 9 (by unfold eI; omega)).trans h9⟩ ⟨hB1.1, b2, b3, b4, by omega, b6⟩ (by omega) ⟨Nat.le_refl _, fun j _ => ⟨rfl, rfl⟩⟩ (by omega) (by omega) (by omega) (by omega) (by omega) (Or.inl ⟨rfl, rfl, rfl⟩) (fun w => h0 (by rw [← hres]; exact w))
    rw [show yCl x n (yItems x n tc G R (n + 2) true L.2.2 (ns + 1) L pl ms t1 c) = res from hres] at hgo
    refine wp_mono hgo (fun r z hz => ⟨fun e he => ?_, fun A tk' c' ms' he => ?_⟩)
    · obtain ⟨a1, a2, a3⟩ := hz.1 e he
      exact ⟨a1, a2, fR_trans (fX_R hq hF1) a3⟩
    · obtain ⟨s', i0, y1, y2, y3, y4, y5, y6, y7, y8, y9⟩ := hz.2 A tk' c' ms' he
      exact ⟨s', i0, y1, fSl_o (fSt_trans (fX_T (nn := G.2.2.2.2 + L.2.2) hF1) (fSl_f y2) (Nat.le_refl _) (Nat.le_refl _) (Nat.le_refl _)), y3, y4, y5, y6, y7, by omega, y9⟩
  · intro e z hcm he0 hE
    rw [hcm, xb_e] at hres
    rw [bnd_e]
    exact wp_mono (b31D hL (by omega) hE.1) (fun r y hy => BKq_e hres.symm he0 hy.1 (fR_trans hE.2 hy.2) (by omega))
/-- a BLOCK as an S -/
theorem bkC {K : zSt → Option (Int32 × zSt)} {R : ySrec} (hL : LN ln q cc) (hn : n ≤ 512) (hN : 5000 ≤ N) (hM : 43 ≤ M) (hG : G.2.2.2.2 + L.2.2 ≤ tk.2.1) (hgs : gSr G) (hst : ∀ g, g < G.2.2.2.2 → G.2.1 g = 2 → G.2.2.1 g = st g) (hKv : KSv ln q x n tc G np fnd st R K) (hKS : KSD ln q K) (h : SVc ln q x n tc G np fnd L tk c ns s p pl ms σ) (hB : CB n tc tk c ns s p D) (hP : p ≤ 4 + 20 * (s + D)) (hpm : pl ≤ tk.2.1) (hms : ms ≤ tk.2.1) (hk : tk.2.2.1 = 51) (h0 : yBk x n tc G R ns L pl ms tk c ≠ .error 0) :
    wp (obd (fX1_enter ln N M  σ) (fun _ σ35 => obd (fX1_takeCells ln N M (zI σ35 1 4) σ35) (fun _ σ37 => rbd (zR σ37 2 5) 11 12 (fun q38 => obd (fX6_block ln N M K  σ37) (fun r39 σ40 => obd (fX9_add ln N M q38 (9 : Int32) (0 : Int32) r39 (-1 : Int32) σ40) (fun r41 σ42 => some (r41, σ42))))))) (SQ ln q x n tc G np fnd st L tk ns s p D pl (SBc ns) σ (yBk x n tc G R ns L pl ms tk c)) := by
  obtain ⟨h, h8, h9⟩ := h
  have hq := hL.1
  have hB0 := hB
  obtain ⟨b1, b2, b3, b4, b5, b6⟩ := hB
  have hp1 := b1.1
  have hp2 := b1.2.1
  have hlt := tk_ne b1 hk (by decide)
  have hnl := h.1.1.2.1
  have hSB := (SB_ge (ns := ns)).1
  generalize hres : yBk x n tc G R ns L pl ms tk c = res at h0 ⊢
  unfold yBk at hres
  have bD : ∀ e z, res = .error e → e ≠ 0 → DS ln q e 11000 z → fR q σ z → wp (rbd (zR z 2 5) 11 12 (fun q38 => obd (fX6_block ln N M K  z) (fun r39 σ40 => obd (fX9_add ln N M q38 (9 : Int32) (0 : Int32) r39 (-1 : Int32) σ40) (fun r41 σ42 => some (r41, σ42))))) (SQ ln q x n tc G np fnd st L tk ns s p D pl (SBc ns) σ res) := by
    intro e z hr he hd hf
    rw [rbT hL.1 hd.2.2.2.1.2.2.2.1]
    unfold fX6_block
    rw [bnd_e, bnd_e, bnd_e, bnd_e, bnd_e, comeD hd, obd_s, bnd_e]
    refine wp_obd (wp_mono (b31D hL (by omega) hd) (fun r u hu => ?_))
    exact wp_mono (wp_ret (treeD hL hu.1)) (fun r y hy => SQ_e hr he hy.1 (fR_trans hf (fR_trans hu.2 hy.2)) (by omega))
  refine stEnter (D := D) hL hn (by omega) (by omega) h hB0 ?_ ?_
  · intro y hen hV0 hF0 hBz
    rw [hen, xb_k] at hres
    revert hV0 hF0
    generalize zsI σ 3 4 (nI (ns + 1)) = s0
    intro hV0 hF0
    rw [hV0.2.1.2.1]
    refine stTake (D := D) hL hn (by omega) (by omega) (by omega) hV0 hBz ?_ ?_
    · intro c1 hfo hV1 hF1 hB1
      rw [hfo, xb_k] at hres
      have hF01 := fX_trans hF0 hF1 (Nat.le_refl _) (Nat.le_refl _) (Nat.le_refl _)
      revert hV1 hF01
      generalize zsI s0 3 3 (nI (tc - c1)) = s1
      intro hV1 hF01
      rw [rbT hL.1 hV1.1.2.1.2.2.2.1]
      refine wp_obd (wp_mono (blkC (N := N) (M := M) (st := st) hL hn hN hM hgs hst hKv hKS ⟨hV1, (hF01.1 2 8 (by unfold eI; omega)).trans h8, (hF01.1 2 9 (by unfold eI; omega)).trans h9⟩ hB1 hP hG hpm hms hk (fun w => h0 (by rw [← hres, w]; rfl))) (fun r z hz => ?_))
      cases hr : yBlock x n tc G R ns L pl ms tk c1 with
      | error e =>
        obtain ⟨he0, hd, hf⟩ := hz.1 e hr
        rw [hr, xb_e] at hres
        exact wp_mono (wp_ret (treeD hL hd)) (fun r y hy => SQ_e hres.symm he0 hy.1 (fR_trans (fX_R hq hF01) (fR_trans hf hy.2)) (Nat.le_refl _))
      | ok v =>
        obtain ⟨A, tk', c', ms'⟩ := v
        rw [hr, xb_k] at hres
        obtain ⟨s', i0, ⟨y1, y1b, y1c⟩, y2, y3, y4, y5, y6, y7, y8, y9⟩ := hz.2 A tk' c' ms' hr
        have hF2 := fSl_f y2
        rw [if_pos rfl] at y4
        subst y4
        have hcA := (crp_cnt A).1 _ _ _ y3
        have hgA := gl_le A
        have hq1 := y7.1.1
        have hq2 := y7.1.2.1
        have hq3 := y7.2.2.2.2.1
        rw [treeC hL y1.2.2.2.2.2.1 (by omega), obd_s]
        obtain ⟨hV3, hF3⟩ := ta_CV (k := 9) (a := 0) (b := r) (d := -1) hL y1
        have hgl : (gl (fN 20 0 0 A fZ fZ)).2 = (gl A).2 := by rw [gl_N]; rfl
        refine wp_s ⟨fun e h' => (by rw [← hres] at h'; cases h'), fun A1 tk1 c1' ms1 h' => ?_⟩
        rw [← hres] at h'
        cases h'
        refine ⟨s' + 1, ⟨?_, ?_, ?_⟩, fSt_trans (fSt_trans (fX_T (nn := G.2.2.2.2 + L.2.2) hF01) hF2 (Nat.le_refl _) (Nat.le_refl _) (Nat.le_refl _)) (fX_T (nn := G.2.2.2.2 + L.2.2) hF3) (by omega) (by omega) (Nat.le_refl _), crp_1 (k := 20) hL.1 (by have := hL.2.1; omega) (by omega) (by omega) y3, ⟨_, _, _, _, _, _, rfl⟩, ?_, ?_, by omega, y9, nx_ta⟩
        · rw [hgl]; exact hV3
        · rw [taS_I (by omega)]; exact y1b
        · rw [taS_I (by omega)]; exact y1c
        · rw [gn_N]
          show cdC ln q _ p ((gn st (nI np) A).2 p)
          exact cdC_fX hq hF3 (by rw [(gn_len st (nI np) A).2 p]; omega) y6
        · rw [hgl]
          exact ⟨y7.1, y7.2.1, b3, b4, by omega, y7.2.2.2.2.2⟩
    · intro e z hfo he0 hE
      rw [hfo, xb_e] at hres
      exact bD e z hres.symm he0 hE.1 (fR_trans (fX_R hq hF0) hE.2)
  · intro e z hen he0 hE
    rw [hen, xb_e] at hres
    refine wp_obd (wp_mono (takeD hL.1 hE.1) (fun _ u hu => ?_))
    exact bD e u hres.symm he0 hu.1 (fR_trans hE.2 hu.2)
end
