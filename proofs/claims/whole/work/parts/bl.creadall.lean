/-! THE CLASS: readAll -/
def fRR (q : Nat) (τ u : zSt) : Prop := (∀ o k, ¬ okI q o k → zI u o k = zI τ o k) ∧ (∀ o k, o ≠ 1 → zL u o k = zL τ o k) ∧ (∀ o k, o ≠ 2 → o ≠ 5 → zR u o k = zR τ o k) ∧ (∀ a i, ¬ okA q a → zA u a i = zA τ a i) ∧ (∀ a i, a ≠ 16 → zB u a i = zB τ a i)
theorem fRR_R {q : Nat} {τ u v : zSt} (h : fRR q τ u) (h2 : fR q u v) : fRR q τ v := ⟨fun o k q => (h2.1 o k q).trans (h.1 o k q), fun o k q => (h2.2.1 o k q).trans (h.2.1 o k q), fun o k a b => (h2.2.2.1 o k).trans (h.2.2.1 o k a b), fun a i q => (h2.2.2.2.1 a i q).trans (h.2.2.2.1 a i q), fun a i q => (h2.2.2.2.2 a i q).trans (h.2.2.2.2 a i q)⟩
def bgC (q : Nat) (σ : zSt) : zSt := zsI (zsI (zsI (zsI (zsR (zsR (zsI (zsI (zsI (zsI (zsI (zsI (zsI (zsI (zsI (zsR (zsR (zsR σ 2 4 (q + 1)) 2 5 ((q + 2) + 1)) 2 6 ((q + 4) + 1)) (q + 2) 6 0) (q + 4) 1 0) q 2 0) q 3 (-1)) q 4 0) 4 5 0) 3 3 (zI σ 3 2)) 3 4 0) 3 5 0) 5 8 ((q + 2) + 1)) 5 9 ((q + 4) + 1)) 5 6 0) 5 7 (-1)) 1 7 0) 1 2 0
theorem cut0 {ln : Nat → Nat} {N M : Nat} {σ : zSt} : fX4_cutTo ln N M 0 σ = some ((), zsI σ 4 5 0) := by
  unfold fX4_cutTo
  rw [bnd_e]
  have : (if (0 : Int32) < (if (0 : Int32) < (zI σ 4 5) then (0 : Int32) else (zI σ 4 5)) then (if (0 : Int32) < (zI σ 4 5) then (0 : Int32) else (zI σ 4 5)) else (0 : Int32)) = 0 := by
    by_cases c : (0 : Int32) < zI σ 4 5
    · rw [if_pos c, if_neg (by decide)]
    · rw [if_neg c, if_neg c]
  rw [this]
theorem bgC_R {q : Nat} {σ : zSt} : zR (bgC q σ) 5 8 = q + 3 ∧ zR (bgC q σ) 5 9 = q + 5 ∧ zR (bgC q σ) 2 4 = q + 1 ∧ zR (bgC q σ) 2 5 = q + 3 ∧ zR (bgC q σ) 2 6 = q + 5 := by
  unfold bgC
  refine ⟨?_, ?_, ?_, ?_, ?_⟩ <;> rfl
theorem bgC_I {q : Nat} (hq : q = 9 ∨ q = 10) {σ : zSt} : zI (bgC q σ) 1 2 = nI 0 ∧ zI (bgC q σ) 1 7 = 0 ∧ zI (bgC q σ) 5 6 = nI 0 ∧ zI (bgC q σ) 5 7 = -1 ∧ zI (bgC q σ) 3 3 = zI σ 3 2 ∧ zI (bgC q σ) 3 4 = nI 0 ∧ zI (bgC q σ) 3 5 = nI 0 ∧ zI (bgC q σ) 4 5 = nI 0 ∧ zI (bgC q σ) (q + 2) 6 = nI 0 ∧ zI (bgC q σ) (q + 4) 1 = nI 0 ∧ zI (bgC q σ) q 2 = nI 0 ∧ zI (bgC q σ) q 3 = -1 := by
  unfold bgC
  rcases hq with rfl | rfl <;> (refine ⟨?_, ?_, ?_, ?_, ?_, ?_, ?_, ?_, ?_, ?_, ?_, ?_⟩ <;> rfl)
theorem bgC_f {q : Nat} (hq : q = 9 ∨ q = 10) {σ : zSt} : fRR q σ (bgC q σ) := by
  refine ⟨fun o k h => ?_, fun _ _ _ => rfl, fun o k h1 h2 => ?_, fun _ _ _ => rfl, fun _ _ _ => rfl⟩
  · unfold bgC
    unfold okI at h
    simp only [zI_I, zI_R]
    repeat rw [if_neg (by omega)]
  · unfold bgC
    simp only [zR_I, zR_R]
    repeat rw [if_neg (by omega)]
section
variable {ln : Nat → Nat} {N M q cc : Nat} {x : Nat → Int32} {n tc : Nat} {σ : zSt}
/-- what comes of reading a text -/
def RDq (ln : Nat → Nat) (q : Nat) (σ : zSt) (res : Except Int32 yP) (r : Int32) (z : zSt) : Prop := fRR q σ z ∧ (∀ e, res = .error e → r = e) ∧ (∀ P, res = .ok P → r = 0 ∧ PCv ln P q P z ∧ zI z q 4 = 1 ∧ zI z (q + 2) 6 = nI (nst P P.1.2.2.2.2) ∧ zI z (q + 4) 1 = nI P.2.2.1 ∧ P.2.2.1 ≤ ln (q + 36) ∧ nst P P.1.2.2.2.2 ≤ ln 15)
theorem readAllC (hL : LN ln q cc) (hn : n ≤ 512) (hN : 5000 ≤ N) (hM : 43 ≤ M) (hs : srcC x n ln σ) (h32 : zI σ 3 2 = nI tc) (htc : tc ≤ 4096) : wp (fX6_readAll ln N M q σ) (fun r z => RDq ln q σ (yAll x n tc cc) r z) := by
  have hq := hL.1
  have hcc : ln (q + 36) ≤ 4096 := by have := hL.2.2.2.2.2.2.2.2.2.2.2; omega
  unfold fX6_readAll fX5_clear fX1_begin fX2_begin fX7_begin
  simp only [bnd_e, obd_s, cut0]
  have hfm : zI (zsI (zsI (zsI (zsI (zsI (zsI (zsR (zsR (zsR σ 2 4 (q + 1)) 2 5 ((q + 2) + 1)) 2 6 ((q + 4) + 1)) (q + 2) 6 0) (q + 4) 1 0) q 2 0) q 3 (-1)) q 4 0) 4 5 0) 3 2 = zI σ 3 2 := by
    simp only [zI_I, zI_R]
    repeat rw [if_neg (by omega)]
  rw [hfm]
  show wp (obd (obd (fX7_come ln N M (bgC q σ)) (fun _ σ4 => some ((), σ4))) _) _
  rw [obd_as]
  have hR := bgC_R (q := q) (σ := σ)
  have hI := bgC_I hq (σ := σ)
  have hF := bgC_f hq (σ := σ)
  revert hR hI hF
  generalize bgC q σ = u
  intro hR hI hF
  obtain ⟨i1, i2, i3, i4, i5, i6, i7, i8, i9, i10, i11, i12⟩ := hI
  have hS : srcC x n ln u := ⟨(hF.1 1 1 (by unfold okI; omega)).trans hs.1, hs.2.1, hs.2.2.1, fun j hj => (hF.2.2.2.1 15 j (by unfold okA; omega)).trans (hs.2.2.2 j hj)⟩
  have hC : ∀ fnd, CS ln q x n tc yP0.1 lNo 0 fnd u := fun fnd => ⟨hS, hR, ⟨i8, fun g hg => absurd hg (Nat.not_lt_zero _), fun g hg => absurd hg (Nat.not_lt_zero _)⟩, (hF.1 3 2 (by unfold okI; omega)).trans h32, i7⟩
  rw [yAll_s]
  have hfX : fX q 0 0 0 u (cS x n 0 u) := comS_fX fX_refl
  cases hcm : cm x n (0, 0, 0, 0) with
  | error e =>
    rw [xb_e]
    obtain ⟨e1, e2, e3⟩ := comeE (N := N) (M := M) (tk := (0, 0, 0, 0)) (hC (fun _ => 0)) i1 i2 (Nat.zero_le _) (by omega) hcm
    rw [e1, obd_s, obd_s]
    have he0 := cm_ne hn hcm (Nat.zero_le _)
    have hRF : RF q (cS x n 0 u) := ⟨(hfX.2.2.1 _ _).trans hR.1, (hfX.2.2.1 _ _).trans hR.2.1, (hfX.2.2.1 _ _).trans hR.2.2.1, (hfX.2.2.1 _ _).trans hR.2.2.2.1, (hfX.2.2.1 _ _).trans hR.2.2.2.2⟩
    have hcI : ∀ o k, o ≠ 1 → zI (cS x n 0 u) o k = zI u o k := fun o k h => by unfold cS; exact comS_I h
    have hD : DS ln q e 0 (cS x n 0 u) := ⟨he0, e2, e3, hRF, ⟨0, Nat.le_refl _, (hcI _ _ (by omega)).trans i10⟩, ⟨0, Nat.zero_le _, (hcI _ _ (by omega)).trans i9⟩, ⟨0, Nat.zero_le _, (hcI _ _ (by omega)).trans i8⟩, ⟨0, Nat.zero_le _, (hcI _ _ (by omega)).trans i3⟩, ⟨n, by omega, (hfX.1 1 1 (by unfold eI; omega)).trans hS.1⟩⟩
    have hF2 := fRR_R hF (fX_R hq hfX)
    revert hD hF2 hRF
    show RF q (cS x n 0 u) → DS ln q e 0 (cS x n 0 u) → fRR q σ (cS x n 0 u) → wp (rbd (zR (cS x n 0 u) 2 6) 13 14 (fun q12 => obd (fX0_addWithTwo ln N M q12 (32 : Int32) (0 : Int32) (0 : Int32) (cS x n 0 u)) (fun _ σ14 => rbd (zR σ14 2 6) 13 14 (fun q15 => obd (fX0_add ln N M q15 (0 : Int32) σ14) (fun _ σ17 => fX6_readAll_b68 ln N M  N 0 σ17))))) _
    generalize cS x n 0 u = v
    intro hRF hD hF2
    rw [rbC hq hRF.2.2.2.2]
    refine wp_obd (wp_mono (addD3 hL (by omega) hD) (fun _ v1 h1 => ?_))
    rw [rbC hq h1.1.2.2.2.1.2.2.2.2]
    refine wp_obd (wp_mono (addD hL (by omega) h1.1) (fun _ v2 h2 => ?_))
    obtain ⟨N', rfl⟩ : ∃ g, N = g + 1 := ⟨N - 1, by omega⟩
    rw [b68D hL h2.1]
    refine wp_s ⟨fRR_R hF2 (fR_q4 (fR_trans h1.2 h2.2)), fun e' h' => (by cases h'; rfl), fun P h' => by cases h'⟩
  | ok t0 =>
    rw [xb_k]
    obtain ⟨e1, e2, e3⟩ := comeT (N := N) (M := M) (tk := (0, 0, 0, 0)) (hC (fun g => nI (nst (yEnd x n tc (n + 2) yP0 t0 0) g))) i1 i2 (Nat.zero_le _) (by omega) hcm
    rw [e1, obd_s, obd_s]
    have ht1 := sat_get (cm_ok (x := x) (n := n) (t := (0, 0, 0, 0)) (by omega) (Nat.zero_le _)) hcm
    have hcI : ∀ o k, o ≠ 1 → zI (cS x n 0 u) o k = zI u o k := fun o k h => by unfold cS; exact comS_I h
    have hV : CV ln q x n tc yP0.1 lNo 0 (fun g => nI (nst (yEnd x n tc (n + 2) yP0 t0 0) g)) (-1) t0 0 0 0 0 0 (cS x n 0 u) := ⟨CS_fX hq hfX (hC _), e3, e2, (hcI _ _ (by omega)).trans (i5.trans h32), (hcI _ _ (by omega)).trans i6, (hcI _ _ (by omega)).trans i9, (hcI _ _ (by omega)).trans i10, (hcI _ _ (by omega)).trans i3, (hcI _ _ (by omega)).trans i4⟩
    have j2 : zI (cS x n 0 u) q 2 = nI 0 := (hcI _ _ (by omega)).trans i11
    have j3 : zI (cS x n 0 u) q 3 = -1 := (hcI _ _ (by omega)).trans i12
    have hF2 := fRR_R hF (fX_R hq hfX)
    revert hV hF2 j2 j3
    show CV ln q x n tc yP0.1 lNo 0 (fun g => nI (nst (yEnd x n tc (n + 2) yP0 t0 0) g)) (-1) t0 0 0 0 0 0 (cS x n 0 u) → zI (cS x n 0 u) q 2 = nI 0 → zI (cS x n 0 u) q 3 = -1 → fRR q σ (cS x n 0 u) → wp (rbd (zR (cS x n 0 u) 2 6) 13 14 (fun q12 => obd (fX0_addWithTwo ln N M q12 (32 : Int32) (0 : Int32) (0 : Int32) (cS x n 0 u)) (fun _ σ14 => rbd (zR σ14 2 6) 13 14 (fun q15 => obd (fX0_add ln N M q15 (0 : Int32) σ14) (fun _ σ17 => fX6_readAll_b68 ln N M  N 0 σ17))))) _
    generalize cS x n 0 u = v
    intro hV j2 j3 hF2
    rw [rbC hq hV.1.2.1.2.2.2.2, addC3 hcc hV.2.2.2.2.2.2.1 (by omega), obd_s]
    have w1 : cdC ln q (ckS ln q v 0 [32, 0, 0]) 0 [32, 0, 0] := ckS_cd
    have w2 : ∀ o k, ¬ (o = q + 4 ∧ k = 1) → zI (ckS ln q v 0 [32, 0, 0]) o k = zI v o k := fun o k h => ckS_I h
    have w3 : zI (ckS ln q v 0 [32, 0, 0]) (q + 4) 1 = nI 3 := ckS_s
    have w4 : ∀ o k, zL (ckS ln q v 0 [32, 0, 0]) o k = zL v o k := fun o k => ckS_L
    have w5 : ∀ o k, zR (ckS ln q v 0 [32, 0, 0]) o k = zR v o k := fun o k => ckS_R
    have w6 : ∀ a i, a ≠ q + 36 → zA (ckS ln q v 0 [32, 0, 0]) a i = zA v a i := fun a i h => ckS_A (Or.inl h)
    have w7 : ∀ a i, zB (ckS ln q v 0 [32, 0, 0]) a i = zB v a i := fun a i => ckS_B
    revert w1 w2 w3 w4 w5 w6 w7
    generalize ckS ln q v 0 [32, 0, 0] = v1
    intro w1 w2 w3 w4 w5 w6 w7
    rw [w5, rbC hq hV.1.2.1.2.2.2.2, addC hcc w3 (by omega), obd_s]
    have y1 : cdC ln q (ckS ln q v1 3 [0]) 3 [0] := ckS_cd
    have y2 : ∀ o k, ¬ (o = q + 4 ∧ k = 1) → zI (ckS ln q v1 3 [0]) o k = zI v o k := fun o k h => (ckS_I h).trans (w2 o k h)
    have y3 : zI (ckS ln q v1 3 [0]) (q + 4) 1 = nI 4 := ckS_s
    have y4 : ∀ o k, zL (ckS ln q v1 3 [0]) o k = zL v o k := fun o k => ckS_L.trans (w4 o k)
    have y5 : ∀ o k, zR (ckS ln q v1 3 [0]) o k = zR v o k := fun o k => ckS_R.trans (w5 o k)
    have y6 : ∀ a i, a ≠ q + 36 → zA (ckS ln q v1 3 [0]) a i = zA v a i := fun a i h => (ckS_A (Or.inl h)).trans (w6 a i h)
    have y7 : ∀ a i, zB (ckS ln q v1 3 [0]) a i = zB v a i := fun a i => ckS_B.trans (w7 a i)
    have y8 : ∀ a i, i < 3 → zA (ckS ln q v1 3 [0]) a i = zA v1 a i := fun a i h => ckS_A (Or.inr h)
    revert y1 y2 y3 y4 y5 y6 y7 y8
    generalize ckS ln q v1 3 [0] = v2
    intro y1 y2 y3 y4 y5 y6 y7 y8
    have hfr : fR q v v2 := ⟨fun o k h => y2 o k (fun e => h (by unfold okI; omega)), fun o k _ => y4 o k, y5, fun a i h => y6 a i (fun e => h (by unfold okA; omega)), fun a i _ => y7 a i⟩
    have hfx2 : fX q 0 0 0 v v2 := ⟨fun o k h => y2 o k (fun e => h (by unfold eI; omega)), fun o k _ => y4 o k, y5, fun a i h => y6 a i (fun e => h (by unfold eA; omega)), y7⟩
    have hd0 : cdC ln q v2 0 [32, 0, 0, 0] := cdC_app (l := [32, 0, 0]) (r := [0]) (cdC_keep w1 (fun i _ h => y8 _ _ (by simpa using h))) y1
    have hV2 := CV_f (c' := 0) (ns' := 0) (s' := 0) (p' := 4) (t' := 0) hq hV hfx2 (fun k => y2 1 k (by omega)) (fun k => y4 1 k) (by rw [y2 _ _ (by omega)]; exact hV.2.2.2.1) (by rw [y2 _ _ (by omega)]; exact hV.2.2.2.2.1) (by rw [y2 _ _ (by omega)]; exact hV.2.2.2.2.2.1) y3 (by rw [y2 _ _ (by omega)]; exact hV.2.2.2.2.2.2.2.1) (by rw [y2 _ _ (by omega)]; exact hV.2.2.2.2.2.2.2.2)
    have hO : pOk yP0 t0 := ⟨fun g hg => absurd hg (Nat.not_lt_zero _), Nat.zero_le _, Nat.zero_le _, fun i j _ hj => absurd hj (Nat.not_lt_zero _), fun g hg => absurd hg (Nat.not_lt_zero _), rfl⟩
    have hv : LPv ln q x n tc (yEnd x n tc (n + 2) yP0 t0 0) yP0 t0 0 v2 := ⟨⟨0, hV2⟩, ⟨ht1.1, Nat.zero_le _, htc, by omega, Nat.zero_le _, (show 4 ≤ 10500 by omega)⟩, ⟨by rw [y2 _ _ (by omega)]; exact j2, by rw [y2 _ _ (by omega)]; exact j3, hd0, cdC_nil, fun g hg => absurd hg (Nat.not_lt_zero _)⟩⟩
    refine wp_mono (loopA hL hn hN hM (n + 2) yP0 t0 0 0 N v2 hO hv (Nat.zero_le _) (by omega) (by omega)) (fun r z hz => ?_)
    exact ⟨fRR_R hF2 (fR_trans hfr hz.1), hz.2⟩
end
