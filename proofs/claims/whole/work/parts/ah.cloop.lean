/-! THE CLASS: all of an E -/
section
variable {ln : Nat → Nat} {N M q cc : Nat} {x : Nat → Int32} {n tc : Nat} {G : gE} {L : lE} {np : Nat} {fnd st : Nat → Int32} {tk : yTok} {c ns s p t D : Nat} {σ : zSt} {base lo p0 : Nat}
theorem rOc_p : ∀ {ops : yOps} {tp s p : Nat}, rOc ln q fnd st np σ base lo p0 ops tp s p → p + 20 * lo ≤ p0 + 20 * s + 6 * ops.length := by
  intro ops
  induction ops with
  | nil => rintro tp s p ⟨rfl, rfl, rfl⟩; omega
  | cons o r ih =>
    rintro tp s p ⟨tp', s', p', rfl, h, h2, h3, h4, h5⟩
    have := ih h
    rw [List.length_cons]
    by_cases e : isOne o.1 = true
    · obtain ⟨e1, e2⟩ := h4 e
      omega
    · obtain ⟨f1, f2, f3, f4, -⟩ := h5 (by cases hh : isOne o.1; rfl; exact absurd hh e)
      have hc := (crp_cnt o.2).1 _ _ _ f1
      have hg := gl_le o.2
      have hd : (hdL o.1 (p' + (gl o.2).2)).length ≤ 6 := by
        unfold hdL
        split
        · show 2 ≤ 6; omega
        · split
          · show 6 ≤ 6; omega
          · show 0 ≤ 6; omega
      omega
theorem operC {K : Int32 → zSt → Option (Int32 × zSt)} {R : yRec} (hL : LN ln q cc) (hn : n ≤ 512) (hN : 5000 ≤ N) (hG : G.2.2.2.2 + L.2.2 ≤ n) (hgs : gSr G) (hst : ∀ g, g < G.2.2.2.2 → G.2.1 g = 2 → G.2.2.1 g = st g) (ht : t ≤ 11 * (ns + 1)) (ht2 : t ≤ 512) (hK : KLv ln q x n tc G L np fnd st R K) (hKD : KDd ln q K) (h : CV ln q x n tc G L np fnd (-1) tk c ns s p t σ) (hB : CB n tc tk c ns s p D) (hP : p ≤ 4 + 20 * (s + D)) (h0 : yOper x n tc R G L ns tk c ≠ .error 0) :
    wp (fX2_operand ln N M K σ) (OQ ln q x n tc G L np fnd st tk ns s p t D σ (yOper x n tc R G L ns tk c)) := by
  have hEB := EB_ge (ns := ns + 1)
  have hp1 := hB.1.1
  have hp2 := hB.1.2.1
  unfold fX2_operand
  rw [bnd_e, h.2.1.2.2.1]
  by_cases k40 : tk.2.2.1 = 40
  · rw [if_pos k40]
    have hy : yOper x n tc R G L ns tk c = yNamed x n tc R G L ns tk c := by
      unfold yOper
      rw [if_neg (by rw [k40]; decide), if_pos k40]
    rw [hy] at h0 ⊢
    exact wp_ret (opNameC hL hn hN hG hgs hst ht ht2 hK hKD h hB hP k40 h0)
  rw [if_neg k40]
  by_cases k41 : tk.2.2.1 = 41
  · rw [if_pos k41]
    exact wp_ret (opNumC hL hn hN hG ht2 h hB hP k41)
  rw [if_neg k41]
  by_cases k48 : tk.2.2.1 = 48
  · rw [if_neg (by rw [k48]; decide), if_neg (by rw [k48]; decide), if_neg (by rw [k48]; decide), if_neg (by rw [k48]; decide), if_neg (by rw [k48]; decide), if_neg (by rw [k48]; decide), if_pos k48]
    exact wp_ret (opReadC hL hn hN hG ht2 h hB hP k48)
  by_cases k49 : tk.2.2.1 = 49
  · rw [if_neg (by rw [k49]; decide), if_neg (by rw [k49]; decide), if_neg (by rw [k49]; decide), if_neg (by rw [k49]; decide), if_neg (by rw [k49]; decide), if_neg (by rw [k49]; decide), if_neg k48, if_pos k49]
    have hy : yOper x n tc R G L ns tk c = xb (yBr x n R ns tk c) (fun u => .ok (u.1, u.2.1, u.2.2, none)) := by
      unfold yOper
      rw [if_neg k41, if_neg k40, if_neg k48, if_pos k49]
    rw [hy] at h0 ⊢
    exact wp_ret (wp_mono (brC hL hn hN hG ht ht2 hK hKD h hB hP (fun z => h0 (by rw [z]; rfl))) (fun r z hz => BQ_OQ rfl hz (by omega) (Nat.le_refl _)))
  · have hy : yOper x n tc R G L ns tk c = er 2 tk.2.1 := by
      unfold yOper
      rw [if_neg k41, if_neg k40, if_neg k48, if_neg k49]
    rw [hy]
    have he0 : (2 : Int32) + 16 * nI tk.2.1 ≠ 0 := er_ne erK2 (by omega)
    have hE := CV_ER (k := 0) hL hn hG ht2 h hB he0
    have bad : wp (obd (fX7_failHere ln N M (2 : Int32) σ) (fun _ σ7 => some ((-1 : Int32), σ7))) (OQ ln q x n tc G L np fnd st tk ns s p t D σ (er 2 tk.2.1)) := by
      rw [failHL h.2.2.1, h.2.1.2.1, obd_s]
      exact wp_s (OQ_e rfl he0 hE.1 hE.2 (by omega))
    by_cases k42 : tk.2.2.1 = 42
    · rw [if_pos k42]; exact bad
    rw [if_neg k42]
    by_cases k43 : tk.2.2.1 = 43
    · rw [if_pos k43]; exact bad
    rw [if_neg k43]
    by_cases k44 : tk.2.2.1 = 44
    · rw [if_pos k44]; exact bad
    rw [if_neg k44]
    by_cases k45 : tk.2.2.1 = 45
    · rw [if_pos k45]; exact bad
    rw [if_neg k45]
    by_cases k46 : tk.2.2.1 = 46
    · rw [if_pos k46]; exact bad
    rw [if_neg k46]
    by_cases k47 : tk.2.2.1 = 47
    · rw [if_pos k47]; exact bad
    rw [if_neg k47, if_neg k48, if_neg k49]
    exact bad
theorem EQ_e {e : Int32} {z τ : zSt} {r : Int32} {b : Nat} {cl : Int32} {res : Except Int32 (fT × yTok × Nat)} (hr : res = .error e) (he : e ≠ 0) (h : DS ln q e b z) (hf : fR q τ z) (hb : b ≤ EBc ns) : EQ ln q x n tc G L np fnd st tk ns s p t D cl τ res r z := by
  refine ⟨fun e' h' => ?_, fun A tk' c' h' => by rw [hr] at h'; cases h'⟩
  rw [hr] at h'
  cases h'
  exact ⟨he, DS_le h hb, hf⟩
/-- told within an E: its loop ends -/
theorem b10D {K : Int32 → zSt → Option (Int32 × zSt)} {e cl nd x4 : Int32} {b m : Nat} (hL : LN ln q cc) (hN : 5000 ≤ N) (hb : b < 2 ^ 27) (ht : t ≤ 512) (h : DS ln q e b σ) : wp (fX2_expression_b10 ln N M K (m + 1) cl (nI t) nd x4 σ) (fun _ z => DD ln q e (b + 4608) σ z) := by
  rw [exp10]
  split
  · exact wp_mono (exp90D hL.1 ht h) (fun _ v hv => ⟨DS_le hv.1 (by omega), hv.2⟩)
  · rw [openD (by omega) h, obd_s, operD h, obd_s]
    exact restD hL hN hb ht h
theorem loopC {K : Int32 → zSt → Option (Int32 × zSt)} {R : yRec} {cl : Int32} {τ : zSt} {tk0 : yTok} (hL : LN ln q cc) (hn : n ≤ 512) (hN : 5000 ≤ N) (hG : G.2.2.2.2 + L.2.2 ≤ n) (hgs : gSr G) (hst : ∀ g, g < G.2.2.2.2 → G.2.1 g = 2 → G.2.2.1 g = st g) (hK : KLv ln q x n tc G L np fnd st R K) (hKD : KDd ln q K) (hbs : base ≤ 11 * ns) (hp0 : p0 ≤ 4 + 20 * (lo + D)) : ∀ (f : Nat) (ops : yOps) (tk : yTok) (c s p t i m : Nat) (nd : Int32) (σ : zSt), CV ln q x n tc G L np fnd (-1) tk c ns s p t σ → CB n tc tk c ns s p (D + ops.length) → rOc ln q fnd st np σ base lo p0 ops t s p → srt ops → i ≤ tk.2.1 → n + 3 ≤ m + tk.2.1 → yLoop x n tc G L R f ops ns cl tk c ≠ .error 0 → fX q lo p0 base τ σ → tk0.2.1 ≤ tk.2.1 →
    wp (fX2_expression_b10 ln N M K m cl (nI base) nd (nI i) σ) (EQ ln q x n tc G L np fnd st tk0 ns lo p0 base D cl τ (yLoop x n tc G L R f ops ns cl tk c)) := by
  have hEB := EB_ge (ns := ns)
  intro f
  induction f with
  | zero => intro ops tk c s p t i m nd σ _ _ _ _ _ _ h0; exact absurd rfl h0
  | succ f ih =>
    intro ops tk c s p t i m nd σ h hB hr hsr hi hm h0 hF hpl0
    have hB0 := hB
    obtain ⟨b1, b2, b3, b4, b5, b6⟩ := hB
    have hp1 := b1.1
    have hp2 := b1.2.1
    have hnl := h.1.1.2.1
    have hle := rOc_le hr
    have hop := rOc_p hr
    have hlen10 := srt_10 hsr
    have hE1 : EBc (ns + 1) + 5000 ≤ EBc ns := by unfold EBc; omega
    generalize hres : yLoop x n tc G L R (f + 1) ops ns cl tk c = res at h0 ⊢
    unfold yLoop at hres
    obtain ⟨m, rfl⟩ : ∃ g, m = g + 1 := ⟨m - 1, by omega⟩
    rw [exp10, h.1.1.1, if_neg (Int32.not_lt.mpr ((nI_le' (by omega) (by omega)).mpr (by omega)))]
    unfold fX2_openOnes
    rw [bnd_e]
    refine wp_obd (openC (ops := ops) hL hn hN hG 42 N [] tk c ns t (D + ops.length) σ h hB0 (Nat.zero_le _) b4 (fun o ho => (List.not_mem_nil ho).elim) hr (by omega) (by omega) (fun z => h0 (by rw [← hres]; rw [show yOpen x n tc 42 ops ns tk c = .error 0 from z]; rfl)) ?_ ?_)
    · intro l ns' tk1 c1 t1 D1 z hyo e1 e2 e3 e4 hl hV1 hB1 hF1 hr1 hpl1 hno
      rw [show ([] : yOps) ++ ops = ops from rfl] at hyo
      rw [hyo, xb_k] at hres
      simp only [List.length_nil, Nat.add_zero, Nat.sub_zero] at e1 e2 e3
      have hb14 := hB1.2.2.2.1
      have hb15 := hB1.2.2.2.2.1
      have hq1 := hB1.1.1
      have hq2 := hB1.1.2.1
      have hFz := fX_trans hF hF1 hle.2.1 hle.2.2 (by omega)
      refine wp_obd (wp_mono (operC hL hn hN hG hgs hst (by omega) (by omega) hK hKD hV1 hB1 (by omega) (fun w => h0 (by rw [← hres, w]; rfl))) (fun r7 z2 hz2 => ?_))
      cases hyp : yOper x n tc R G L ns' tk1 c1 with
      | error e =>
        obtain ⟨he0, hd, hf⟩ := hz2.1 e hyp
        rw [show (l ++ ops, ns', tk1, c1).2.1 = ns' from rfl, show (l ++ ops, ns', tk1, c1).2.2.1 = tk1 from rfl, show (l ++ ops, ns', tk1, c1).2.2.2 = c1 from rfl, hyp, xb_e] at hres
        have hE2 : EBc (ns' + 1) ≤ EBc (ns + 1) := by unfold EBc; omega
        exact wp_mono (restD hL hN (by unfold EBc; omega) (by omega) hd) (fun r y hy => EQ_e hres.symm he0 hy.1 (fR_trans (fX_R hL.1 hFz) (fR_trans hf hy.2)) (by omega))
      | ok v =>
        obtain ⟨A, tk2, c2, mi⟩ := v
        rw [show (l ++ ops, ns', tk1, c1).2.1 = ns' from rfl, show (l ++ ops, ns', tk1, c1).2.2.1 = tk1 from rfl, show (l ++ ops, ns', tk1, c1).2.2.2 = c1 from rfl, hyp, xb_k] at hres
        obtain ⟨s2, hV2, hF2, hc2, hnd2, hcd2, hB2, hP2, hlt2, hmi⟩ := hz2.2 A tk2 c2 mi hyp
        have hcl := clO_app (ops := ops) (srt_pos hsr) l A (fun o ho => (hl o ho).1)
        have hq3 := hB2.1.1
        have hq4 := hB2.1.2.1
        have hb25 := hB2.2.2.2.2.1
        have hcA := (crp_cnt A).1 _ _ _ hc2
        have hr2 := rOc_fX hL.1 hF2 (Nat.le_refl _) (Nat.le_refl _) (by omega) hr1
        have hFz2 := fX_trans hFz hF2 hle.2.1 hle.2.2 (by omega)
        unfold restX
        -- the signs of one part
        have hV2' : CV ln q x n tc G L np fnd (miI mi) tk2 c2 (ns + l.length) s2 (p + (gl A).2) t1 z2 := by rw [← e1]; exact hV2
        obtain ⟨r9, z3, g1, g2, g3, g4, g5, g6, g7, g8, g9⟩ := closeC (N := N) (M := M) hL hn (srt_pos hsr) l A s s2 p t1 ns (D + ops.length) N r7 z2 hV2' (by rw [← e1, ← e3]; exact hB2) hr2 (fun o ho => (hl o ho).1) hc2 hnd2 hcd2 (by omega) (by omega) (by omega)
        unfold fX2_closeOnes
        rw [bnd_e, hV2.2.2.2.2.2.2.2.1, g1, obd_s]
        have hFz3 := fX_trans hFz2 (g4 base) (by omega) (by omega) (Nat.le_refl _)
        have dead3 : ∀ (e : Int32) (y : zSt) (r : Int32), res = .error e → e ≠ 0 → DS ln q e 11000 y → fR q τ y → wp (obd (fX2_rankOf ln N M (zI y 1 3) y) (fun r13 σ14 => obd (fX2_joinAll ln N M r (nI base) r13 σ14) (fun r15 σ16 => if r13 = 0 then fX2_expression_b90 ln N M K (nI base) r15 σ16 else obd (fX2_openTwo ln N M r15 σ16) (fun _ σ18 => obd (fX7_come ln N M σ18) (fun _ σ20 => bnd (nI i + (1 : Int32)) (fun x21 => fX2_expression_b10 ln N M K m cl (nI base) r15 x21 σ20)))))) (EQ ln q x n tc G L np fnd st tk0 ns lo p0 base D cl τ res) := by
          intro e y r hr' he hd hf
          rw [hd.2.2.1, rankM, obd_s]
          refine wp_obd (wp_mono (joinD hL hN (by omega) hd) (fun r15 u hu => ?_))
          rw [if_pos rfl]
          exact wp_mono (exp90D hL.1 (by omega) hu.1) (fun _ v hv => EQ_e hr' he hv.1 (fR_trans hf (fR_trans hu.2 hv.2)) (by omega))
        refine wp_obd (settleC (cl := cl) (mi := mi) (D := D + ops.length) hL hn hG (by omega) g2 g3 hmi ?_ ?_ ?_)
        · intro hmn hse
          subst hmn
          rw [if_neg hse] at hres
          simp only [hcl] at hres
          rw [g2.2.1.2.2.1, rankC, obd_s]
          have hrl := rk_le tk2.2.2.1
          unfold fX2_joinAll
          have g3b := g3.2.2.2.2.1
          obtain ⟨r15, z4, t', s', p', s3, j1, j2, j3, j4, j5, j6, j7, j8, j9⟩ := joinC (N := N) (M := M) (k := rk tk2.2.2.1) hL hn hrl ops (wrap l A) s (s2 + l.length) p (t1 - l.length) N r9 z3 g2 g5 (srt_pos hsr) g6 g7 g8 (by omega) (by omega) (by omega) (by omega)
          rw [bnd_e, g2.2.2.2.2.2.2.2.1, j1, obd_s]
          have hFz4 := fX_trans hFz3 (j3 base) (by omega) (Nat.le_refl _) (Nat.le_refl _)
          have hcJ := (crp_cnt _).1 _ _ _ j5
          have hgJ := gl_le (jnA (rk tk2.2.2.1) ops (wrap l A)).2
          have hj4 := rOc_le j4
          have hj4p := rOc_p j4
          obtain ⟨q1, q2, q3⟩ := jn_srt (k := rk tk2.2.2.1) (t := wrap l A) hsr
          by_cases hrk : rk tk2.2.2.1 = 0
          · rw [if_pos (by rw [hrk]; rfl)]
            rw [if_pos hrk] at hres
            unfold fX2_expression_b90
            rw [bnd_e]
            have hnil : (jnA (rk tk2.2.2.1) ops (wrap l A)).1 = [] := by
              cases hh : (jnA (rk tk2.2.2.1) ops (wrap l A)).1 with
              | nil => rfl
              | cons a rr => have := q2 a (by rw [hh]; exact List.mem_cons_self ..); omega
            rw [hrk] at hnil j2 j4 j5 j6 j7 j8 j9 hcJ hgJ
            rw [hnil] at j4 j8
            obtain ⟨w1, w2, w3⟩ := j4
            subst w1
            subst w2
            subst w3
            refine wp_s ⟨fun e h' => (by rw [← hres] at h'; cases h'), fun A1 tk' c' h' => ?_⟩
            rw [← hres] at h'
            cases h'
            rw [List.length_nil] at j8
            have hend : yEnds cl tk2.2.2.1 = true := by
              cases hh : yEnds cl tk2.2.2.1
              · exact absurd ⟨hh, hrk⟩ hse
              · rfl
            have hF5 : fX q s' p' t' z4 (zsI z4 5 6 (nI t')) := fX_I fX_refl (by unfold eI; omega)
            have hF6 : fX q s3 (p' + (gl (jnA 0 ops (wrap l A)).2).2) t' z4 (zsI z4 5 6 (nI t')) := fX_I fX_refl (by unfold eI; omega)
            refine ⟨s3, top_CV hL j2, fX_trans hFz4 hF5 (Nat.le_refl _) (Nat.le_refl _) (Nat.le_refl _), crp_fX hL.1 hF6 (Nat.le_refl _) j5, j6, cdC_fX hL.1 hF6 (by rw [(gn_len _ _ _).2]; omega) j7, ⟨g3.1, g3.2.1, b3, b4, (show s3 + D ≤ tk2.2.1 by omega), by omega⟩, by omega, hend, (show tk0.2.1 < tk2.2.1 by omega)⟩
          · rw [if_neg (show ¬ nI (rk tk2.2.2.1) = 0 from fun w => hrk ((nI_eq (by omega) (by omega)).mp (show nI (rk tk2.2.2.1) = nI 0 from w)))]
            rw [if_neg hrk] at hres
            have hlt' : tk2.2.1 < tk2.1 := by
              rcases g3.1.2.2.1 with e | e
              · exact absurd (by rw [e]; decide) hrk
              · exact e
            obtain ⟨m, rfl⟩ : ∃ g, m = g + 1 := ⟨m - 1, by omega⟩
            have hlj := srt_10 q1
            refine wp_obd (twoC (D := D + (jnA (rk tk2.2.2.1) ops (wrap l A)).1.length) hL hn hG (by omega) j2 ⟨g3.1, g3.2.1, b3, b4, by omega, by omega⟩ j4 j5 j6 j7 (Nat.pos_of_ne_zero hrk) (by omega) ?_ ?_)
            · intro c3 z5 hfo hV5 hF5 hr5 hc3
              rw [hfo, xb_k] at hres
              have hFz5 := fX_trans hFz4 (hF5 base (by omega)) (by omega) (by omega) (Nat.le_refl _)
              have hr5p := rOc_p hr5
              rw [List.length_cons] at hr5p
              refine stCome (D := D + (jnA (rk tk2.2.2.1) ops (wrap l A)).1.length) hL hn hN hG (by omega) hV5 ⟨g3.1, hc3, b3, b4, by omega, by omega⟩ ?_ ?_
              · intro t3 hcm hV6 hF6 hB6 hpl3
                rw [hcm, xb_k] at hres
                have hr6 := rOc_fX hL.1 hF6 (Nat.le_refl _) (Nat.le_refl _) (Nat.le_refl _) hr5
                have hFz6 := fX_trans hFz5 hF6 (by omega) (by omega) (by omega)
                revert hV6 hr6 hFz6
                generalize cS x n tk2.1 z5 = z6
                intro hV6 hr6 hFz6
                have hq5 := hB6.1.1
                have hq6 := hB6.1.2.1
                rw [bnd_e, nI_1, ← hres]
                rw [← hres] at h0
                exact ih ((tk2.2.2.1, (jnA (rk tk2.2.2.1) ops (wrap l A)).2) :: (jnA (rk tk2.2.2.1) ops (wrap l A)).1) t3 c3 s3 _ (t' + 1) (i + 1) (m + 1) r15 z6 hV6 ⟨hB6.1, hc3, b3, b4, by rw [List.length_cons]; omega, hB6.2.2.2.2.2⟩ hr6 ⟨Nat.pos_of_ne_zero hrk, q2, q1⟩ (by omega) (by omega) h0 hFz6 (by omega)
              · intro e y hcm he0 hE
                rw [hcm, xb_e] at hres
                rw [bnd_e]
                exact wp_mono (b10D hL hN (by omega) (by omega) hE.1) (fun _ v hv => EQ_e hres.symm he0 hv.1 (fR_trans (fX_R hL.1 hFz5) (fR_trans hE.2 hv.2)) (by omega))
            · intro e y hfo he0 hd hf
              rw [hfo, xb_e] at hres
              rw [comeD hd, obd_s, bnd_e]
              exact wp_mono (b10D hL hN (by omega) (by omega) hd) (fun _ v hv => EQ_e hres.symm he0 hv.1 (fR_trans (fX_R hL.1 hFz4) (fR_trans hf hv.2)) (by omega))
        · intro y hse hd hf
          rw [if_pos hse] at hres
          exact dead3 _ y r9 hres.symm hd.1 hd (fR_trans (fX_R hL.1 hFz3) hf)
        · intro pl y hse hmp hd hf
          subst hmp
          rw [if_neg hse] at hres
          exact dead3 _ y r9 hres.symm hd.1 hd (fR_trans (fX_R hL.1 hFz3) hf)
    · intro e z hyo he0 hd hf
      rw [show ([] : yOps) ++ ops = ops from rfl] at hyo
      rw [hyo, xb_e] at hres
      rw [operD hd, obd_s]
      exact wp_mono (restD hL hN (by omega) (by omega) hd) (fun r y hy => EQ_e hres.symm he0 hy.1 (fR_trans (fX_R hL.1 hF) (fR_trans hf hy.2)) (by omega))
end
/-- what the class's expression() does is what yE says -/
theorem expC {ln : Nat → Nat} {N M q cc : Nat} {x : Nat → Int32} {n tc : Nat} {G : gE} {L : lE} {np : Nat} {fnd st : Nat → Int32} (hL : LN ln q cc) (hn : n ≤ 512) (hN : 5000 ≤ N) (hG : G.2.2.2.2 + L.2.2 ≤ n) (hgs : gSr G) (hst : ∀ g, g < G.2.2.2.2 → G.2.1 g = 2 → G.2.2.1 g = st g) : ∀ (d e : Nat), d ≤ e → KLv ln q x n tc G L np fnd st (yE x n tc G L d) (fX2_expression ln N M (e + 1)) := by
  intro d
  induction d with
  | zero => intro e _ ns cl tk c s p t D τ _ _ _ _ _ h0; exact absurd rfl h0
  | succ d ih =>
    intro e he ns cl tk c s p t D τ h hB hP ht hcl h0
    obtain ⟨e, rfl⟩ : ∃ g, e = g + 1 := ⟨e - 1, by omega⟩
    show wp (fX2_expressionB ln N M (fX2_expression ln N M (e + 1)) cl τ) _
    unfold fX2_expressionB
    rw [bnd_e, bnd_e, bnd_e, h.2.2.2.2.2.2.2.1]
    exact loopC hL hn hN hG hgs hst (ih e (by omega)) (expD hL hN) ht hP (n + 2) [] tk c s p t 0 N (-1) τ h hB ⟨rfl, rfl, rfl⟩ trivial (Nat.zero_le _) (by omega) h0 fX_refl (Nat.le_refl _)
