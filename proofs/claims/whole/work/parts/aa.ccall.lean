/-! THE CLASS: a variable, a call -/
theorem inFr_ok {ln : Nat → Nat} {N M np : Nat} {v : Int32} {σ : zSt} (h : zI σ 3 5 = nI np) : fX1_inFrame ln N M v σ = some (inF np v.toInt, σ) := by
  unfold fX1_inFrame inF
  rw [h, Int32.ofInt_toInt]
  by_cases c : 0 ≤ v
  · rw [if_pos c, if_pos (show (0 : Int) ≤ v.toInt by rw [Int32.le_iff_toInt_le] at c; exact c)]
  · rw [if_neg c, if_neg (show ¬ (0 : Int) ≤ v.toInt from fun z => c (by rw [Int32.le_iff_toInt_le]; exact z))]
section
variable {ln : Nat → Nat} {N M q cc : Nat} {x : Nat → Int32} {n tc : Nat} {G : gE} {L : lE} {np : Nat} {fnd st : Nat → Int32} {mu : Int32} {tk : yTok} {c ns s p t D : Nat} {σ : zSt}
theorem varC {k : Nat ⊕ Nat} (hL : LN ln q cc) (hg : gSr G) (hG : G.2.2.2.2 + L.2.2 ≤ ln 15) (h : CV ln q x n tc G L np fnd mu tk c ns s p t σ) (hs : s < ln 15) (hp : p ≤ 10500) (hk : inQ G L k) :
    ∃ z, fX2_variable ln N M (nI (ixC G k)) σ = some (nI s, z) ∧ CV ln q x n tc G L np fnd mu tk c ns (s + 1) (p + (gl (vrN G L k)).2) t z ∧ fX q s p t σ z ∧ (crp z q fnd np (vrN G L k)).1 s (s + 1) (nI s) ∧ isNd (vrN G L k) ∧ cdC ln q z p ((gn st (nI np) (vrN G L k)).2 p) ∧ (gl (vrN G L k)).2 = 2 := by
  have h15 := hL.2.1
  have hcc : ln (q + 36) ≤ 4096 := by have := hL.2.2.2.2.2.2.2.2.2.2.2; omega
  obtain ⟨n1, -, -, n4, -⟩ := nmL (N := N) (M := M) (v := 3) hL hG h.1.2.2.1 hk
  obtain ⟨-, -, -, v4⟩ := srt_v hg h.1.2.2.1 hk
  unfold fX2_variable
  rw [n1, obd_s, n4, obd_s]
  cases k with
  | inl j =>
    rw [if_pos (v4.mpr ⟨j, rfl⟩), if_neg (by decide), rbC hL.1 h.1.2.1.2.1, addC2 hcc h.2.2.2.2.2.2.1 (by omega), obd_s]
    obtain ⟨hV, hF⟩ := ck_CV (l := [4, plOf G L (.inl j)]) hL h
    have hcd := ckS_cd (ln := ln) (q := q) (p := p) (σ := σ) (l := [4, plOf G L (.inl j)])
    revert hV hF hcd
    generalize ckS ln q σ p [4, plOf G L (.inl j)] = s1
    intro hV hF hcd
    rw [rbT hL.1 hV.1.2.1.1, inFr_ok hV.1.2.2.2.2, obd_s, treeC hL hV.2.2.2.2.2.1 hs, obd_s]
    obtain ⟨hV2, hF2⟩ := ta_CV (k := 3) (a := inF np (plOf G L (.inl j)).toInt) (b := -1) (d := -1) hL hV
    have hgl : (gl (vrN G L (.inl j))).2 = 2 := by unfold vrN; rw [gl_N]; rfl
    refine ⟨_, rfl, by rw [hgl]; exact hV2, fX_trans hF hF2 (Nat.le_refl _) (by omega) (Nat.le_refl _), crp_0 (k := 3) (v := (L.2.1 j).toInt) hL.1 (by omega) (by omega), ⟨_, _, _, _, _, _, rfl⟩, ?_, hgl⟩
    unfold vrN
    rw [gn_N]
    show cdC ln q _ p [4, Int32.ofInt (L.2.1 j).toInt]
    rw [Int32.ofInt_toInt]
    exact cdC_fX hL.1 hF2 (Nat.le_refl _) hcd
  | inr g =>
    rw [if_neg (show ¬ zA σ 17 (ixC G (Sum.inr g)) = 3 from fun z => by obtain ⟨j, hj⟩ := v4.mp z; cases hj), if_pos rfl, rbC hL.1 h.1.2.1.2.1, addC2 hcc h.2.2.2.2.2.2.1 (by omega), obd_s]
    obtain ⟨hV, hF⟩ := ck_CV (l := [2, plOf G L (.inr g)]) hL h
    have hcd := ckS_cd (ln := ln) (q := q) (p := p) (σ := σ) (l := [2, plOf G L (.inr g)])
    revert hV hF hcd
    generalize ckS ln q σ p [2, plOf G L (.inr g)] = s1
    intro hV hF hcd
    rw [rbT hL.1 hV.1.2.1.1, treeC hL hV.2.2.2.2.2.1 hs, obd_s]
    obtain ⟨hV2, hF2⟩ := ta_CV (k := 2) (a := plOf G L (.inr g)) (b := -1) (d := -1) hL hV
    have hgl : (gl (vrN G L (.inr g))).2 = 2 := by unfold vrN; rw [gl_N]; rfl
    refine ⟨_, rfl, by rw [hgl]; exact hV2, fX_trans hF hF2 (Nat.le_refl _) (by omega) (Nat.le_refl _), ?_, ⟨_, _, _, _, _, _, rfl⟩, ?_, hgl⟩
    · have := crp_0 (τ := s1) (q := q) (s := s) (fnd := fnd) (np := np) (k := 2) (v := (G.2.2.1 g).toInt) (w := 0) hL.1 (by omega) (by omega)
      rw [show cVa fnd np 2 (G.2.2.1 g).toInt = G.2.2.1 g from Int32.ofInt_toInt _] at this
      exact this
    · unfold vrN
      rw [gn_N]
      show cdC ln q _ p [2, Int32.ofInt (G.2.2.1 g).toInt]
      rw [Int32.ofInt_toInt]
      exact cdC_fX hL.1 hF2 (Nat.le_refl _) hcd
/-- the parts of a call: cnt of them are there, the last one is pr -/
theorem partsC {K : Int32 → zSt → Option (Int32 × zSt)} {R : yRec} {a pl : Int32} {Q : Int32 → zSt → Prop} (hL : LN ln q cc) (hn : n ≤ 512) (hN : 5000 ≤ N) (hG : G.2.2.2.2 + L.2.2 ≤ n) (hK : KLv ln q x n tc G L np fnd st R K) (hKD : KDd ln q K) : ∀ (f : Nat) (tk : yTok) (c s p cnt m : Nat) (pr : Int32) (τ : zSt), CV ln q x n tc G L np fnd (-1) tk c ns s p t τ → CB n tc tk c ns s p D → p ≤ 4 + 20 * (s + D) → t ≤ 11 * ns → cnt ≤ tk.2.1 → n + 1 ≤ m + tk.2.1 → yParts x n R f ns tk c ≠ .error 0 →
    (∀ r k tk' c' s' pr' z, yParts x n R f ns tk c = .ok (r, k, tk', c') → CV ln q x n tc G L np fnd (-1) tk' c' ns s' (p + (gl r).2) t z → fX q s p t τ z → (crp z q fnd np r).2 pr s s' pr' → cdC ln q z p ((gn st (nI np) r).2 p) → CB n tc tk' c' ns s' (p + (gl r).2) D → p + (gl r).2 ≤ 4 + 20 * (s' + D) → tk.2.1 < tk'.2.1 → tk'.2.2.1 = 50 → s ≤ s' → cnt + k ≤ tk'.2.1 → wp (fX2_call_b121 ln N M K a pl (nI (cnt + k)) pr' z) Q) →
    (∀ e z v w, yParts x n R f ns tk c = .error e → e ≠ 0 → DS ln q e (EBc ns) z → fR q τ z → wp (fX2_call_b121 ln N M K a pl v w z) Q) →
    wp (fX2_call_b55 ln N M K m a pl (nI cnt) pr (nI cnt) τ) Q := by
  intro f
  induction f with
  | zero => intro tk c s p cnt m pr τ _ _ _ _ _ _ h0; exact absurd rfl h0
  | succ f ih =>
    intro tk c s p cnt m pr τ h hB hP ht hcnt hm h0 hok her
    have hB0 := hB
    obtain ⟨b1, b2, b3, b4, b5, b6⟩ := hB
    have hp1 := b1.1
    have hp2 := b1.2.1
    have hnl := h.1.1.2.1
    have hns := b4
    have hEB := EB_ge (ns := ns)
    obtain ⟨m, rfl⟩ : ∃ g, m = g + 1 := ⟨m - 1, by omega⟩
    rw [fX2_call_b55, h.1.1.1, if_neg (Int32.not_lt.mpr ((nI_le' (by omega) (by omega)).mpr (by omega)))]
    unfold yParts at h0 hok her
    refine wp_obd (wp_mono (hK ns 55 tk c s p t D τ h hB0 hP ht (Or.inr (Or.inr (Or.inl rfl))) (fun z => h0 (by rw [z]; rfl))) (fun r z hz => ?_))
    cases hr : R ns 55 tk c with
    | error e =>
      rw [hr] at her hz
      obtain ⟨he0, hd, hf⟩ := hz.1 e rfl
      rw [rbT hL.1 hd.2.2.2.1.1]
      refine wp_obd (wp_mono (setND hL hd) (fun _ u hu => ?_))
      rw [bnd_e, hu.1.2.2.1, if_neg (by decide)]
      exact her e u _ _ rfl he0 hu.1 (fR_trans hf hu.2)
    | ok v =>
      obtain ⟨A, tk', c'⟩ := v
      rw [hr] at h0 hok her hz
      simp only [xb_k] at h0 hok her
      obtain ⟨s', hV, hFz, hc, hnd, hcd, hBz, hPz, hen, hlt⟩ := hz.2 A tk' c' rfl
      have hlenA := (gn_len st (nI np) A).2 p
      -- the root of the part
      obtain ⟨j, hj, hjs, hss⟩ : ∃ j, r = nI j ∧ s' = j + 1 ∧ s ≤ j := by
        obtain ⟨k, v, w, A', B', C', rfl⟩ := hnd
        rw [crp_N] at hc
        obtain ⟨m, a, b, h1, h2, h3, h4, h5, -⟩ := hc
        exact ⟨m, h1, h2, by omega⟩
      subst hj
      subst hjs
      have hq := hL.1
      have hq1 := hBz.1.1
      have hq2 := hBz.1.2.1
      have hq3 := hBz.2.2.2.2.1
      -- linked
      have hset : fX9_setNext ln N M (q + 2) (nI j) pr z = some ((), zsA z (6 * q - 16) j pr) := by
        unfold fX9_setNext
        rw [show 6 * (q + 2) - 28 = 6 * q - 16 by omega, LN_t hL (a := 6 * q - 16) (by omega) (by omega), hV.2.2.2.2.2.1, if_neg (nI_pos (by omega)), if_neg (fun z => by rw [nI_le' (by omega) (by omega)] at z; omega), nI_clamp (by omega), if_neg (ixN (by omega) (by have := hL.2.1; omega)), bnd_e]
      rw [rbT hL.1 hV.1.2.1.1, hset, obd_s, bnd_e, nI_1]
      have hV1 : CV ln q x n tc G L np fnd (-1) tk' c' ns (j + 1) (p + (gl A).2) t (zsA z (6 * q - 16) j pr) := CV_f hL.1 hV (fX_A fX_refl (by unfold eA; omega)) (fun k => rfl) (fun k => rfl) hV.2.2.2.1 hV.2.2.2.2.1 hV.2.2.2.2.2.1 hV.2.2.2.2.2.2.1 hV.2.2.2.2.2.2.2.1 hV.2.2.2.2.2.2.2.2
      have hF1 : fX q s p t τ (zsA z (6 * q - 16) j pr) := fX_A hFz (by unfold eA; omega)
      have hc1 : (crp (zsA z (6 * q - 16) j pr) q fnd np A).1 s (j + 1) (nI j) := by
        obtain ⟨k, v, w, A', B', C', rfl⟩ := hnd
        refine (crp_frame (fnd' := fnd) hL.1 _).2.2 _ _ _ _ _ _ rfl _ _ _ (fun a m a1 a2 a3 a4 a5 => ?_) hc
        rw [zA_A, if_neg (by omega)]
      have hcd1 : cdC ln q (zsA z (6 * q - 16) j pr) p ((gn st (nI np) A).2 p) := fun hl i v hi => by rw [zA_A, if_neg (by omega)]; exact hcd hl i v hi
      have hnx : zA (zsA z (6 * q - 16) j pr) (6 * q - 16) j = pr := by rw [zA_A, if_pos ⟨rfl, rfl⟩]
      revert hV1 hF1 hc1 hcd1 hnx
      generalize zsA z (6 * q - 16) j pr = z1
      intro hV1 hF1 hc1 hcd1 hnx
      rw [hV1.2.1.2.2.1]
      by_cases h55 : tk'.2.2.1 = 55
      · rw [if_pos h55]
        rw [if_pos h55] at h0 hok her
        have hlt' := tk_ne hBz.1 h55 (by decide)
        refine stCome (D := D) hL hn hN hG (by omega) hV1 hBz ?_ ?_
        · intro t2 hcm hV2 hF2 hB2 hp4
          simp only [hcm, xb_k] at h0 hok her
          rw [bnd_e]
          have hc2 := crp_fX hL.1 hF2 (Nat.le_refl _) hc1
          have hcd2 := cdC_fX hL.1 hF2 (by omega) hcd1
          have hnx2 : zA (cS x n tk'.1 z1) (6 * q - 16) j = pr := (hF2.2.2.2.1 _ _ (by unfold eA; omega)).trans hnx
          have hF12 := fX_trans hF1 hF2 (by omega) (by omega) (Nat.le_refl _)
          revert hV2 hF12 hc2 hcd2 hnx2
          generalize cS x n tk'.1 z1 = z2
          intro hV2 hc2 hcd2 hnx2 hF12
          have hq5 := hB2.1.1
          have hq6 := hB2.1.2.1
          refine ih t2 c' (j + 1) (p + (gl A).2) (cnt + 1) m (nI j) z2 hV2 hB2 hPz ht (by omega) (by omega) (fun z => h0 (by rw [z]; rfl)) ?_ ?_
          · intro r k tk3 c3 s3 pr3 z3 hres3 hV3 hF3 hc3 hcd3 hB3 hP3 hlt3 h503 hss3 hck3
            have hgl : (gl (fC A r)).2 = (gl A).2 + (gl r).2 := by rw [gl_C]
            rw [hres3, xb_k] at hok
            rw [show cnt + 1 + k = cnt + (k + 1) by omega]
            refine hok (fC A r) (k + 1) tk3 c3 s3 pr3 z3 rfl (by rw [hgl, ← Nat.add_assoc]; exact hV3) (fX_trans hF12 hF3 (by omega) (by omega) (Nat.le_refl _)) ?_ ?_ (by rw [hgl, ← Nat.add_assoc]; exact hB3) (by rw [hgl, ← Nat.add_assoc]; exact hP3) (by omega) h503 (by omega) (by omega)
            · rw [crp_C]
              refine ⟨j, hss, hss3, crp_fX hL.1 hF3 (Nat.le_refl _) hc2, ?_, hc3⟩
              exact (hF3.2.2.2.1 _ _ (by unfold eA; omega)).trans hnx2
            · rw [gn_C]
              show cdC ln q z3 p ((gn st (nI np) A).2 p ++ (gn st (nI np) r).2 (p + ((gn st (nI np) A).2 p).length))
              rw [hlenA]
              refine cdC_app (cdC_fX hL.1 hF3 (by omega) hcd2) ?_
              rw [hlenA]; exact hcd3
          · intro e z3 v w hres3 he0 hd hf
            rw [hres3, xb_e] at her
            exact her e z3 v w rfl he0 hd (fR_trans (fX_R hL.1 hF12) hf)
        · intro e z3 hcm he0 hE
          simp only [hcm, xb_e] at her
          obtain ⟨m, rfl⟩ : ∃ g, m = g + 1 := ⟨m - 1, by omega⟩
          have hfz := fR_trans (fX_R hL.1 hF1) hE.2
          rw [bnd_e, fX2_call_b55]
          split
          · exact her e z3 _ _ rfl he0 (DS_le hE.1 (by omega)) hfz
          · refine wp_obd (wp_mono (hKD _ _ _ _ hE.1) (fun r3 u hu => ?_))
            rw [rbT hL.1 hu.1.2.2.2.1.1]
            refine wp_obd (wp_mono (setND hL hu.1) (fun _ y hy => ?_))
            rw [bnd_e, hy.1.2.2.1, if_neg (by decide)]
            exact her e y _ _ rfl he0 (DS_le hy.1 (by omega)) (fR_trans hfz (fR_trans hu.2 hy.2))
      · rw [if_neg h55]
        rw [if_neg h55] at h0 hok her
        have h50 : tk'.2.2.1 = 50 := by
          unfold yEnds at hen
          rw [decide_eq_true_eq] at hen
          rcases hen with z | z
          · exact absurd z h55
          · exact z.2
        have hgl : (gl (fC A fZ)).2 = (gl A).2 := by rw [gl_C, gl_isZ isZ_Z]; rfl
        refine hok (fC A fZ) 1 tk' c' (j + 1) (nI j) z1 rfl (by rw [hgl]; exact hV1) hF1 ?_ ?_ (by rw [hgl]; exact hBz) (by rw [hgl]; exact hPz) hlt h50 (by omega) (by omega)
        · rw [crp_C, crp_Z]
          exact ⟨j, hss, Nat.le_refl _, hc1, hnx, rfl, rfl⟩
        · rw [gn_C, gn_isZ isZ_Z]
          show cdC ln q z1 p ((gn st (nI np) A).2 p ++ [])
          rw [List.append_nil]; exact hcd1
end
