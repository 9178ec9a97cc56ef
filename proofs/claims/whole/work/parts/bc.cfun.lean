/-! THE CLASS: a FUNCTION, whole -/
def fnP (P : yP) (w : Int64) (m : Nat) (A : fT) (ms : Nat) : yP := (gAdd P.1 w 2 (nI P.2.2.1) (nI m), P.2.1, P.2.2.1 + (6 + (gl A).2), (fun i => if i = P.1.2.2.2.2 then fN 20 0 0 A fZ fZ else P.2.2.2.1 i), (fun i => if i = P.1.2.2.2.2 then ms else P.2.2.2.2 i))
theorem yFun_of {x : Nat → Int32} {n tc : Nat} {P : yP} {w : Int64} {p0 : Nat} {tk : yTok} {c : Nat} : yFun x n tc P w p0 tk c = xb (yOf x n tc p0 tk c) (fun v => xb (yBlock x n tc (gAdd P.1 w 2 (nI P.2.2.1) (nI v.1.2.2)) (yS x n tc (gAdd P.1 w 2 (nI P.2.2.1) (nI v.1.2.2)) 42) 0 (lPlace v.1) 0 0 v.2.1 v.2.2) (fun r => .ok (fnP P w v.1.2.2 r.1 r.2.2.2, r.2.1, r.2.2.1))) := by
  unfold yFun yOf yPg yPe
  cases fo tc c p0 with
  | error e => rfl
  | ok c1 =>
    rw [xb_k, xb_k]
    cases cm x n tk with
    | error e => rfl
    | ok t3 =>
      rw [xb_k, xb_k]
      show xb (if t3.2.2.1 = 50 then .ok (lNo, t3) else yPars x n (n + 2) lNo t3) _ = _
      cases (if t3.2.2.1 = 50 then .ok (lNo, t3) else yPars x n (n + 2) lNo t3 : Except Int32 (lE × yTok)) with
      | error e => rfl
      | ok u =>
        rw [xb_k, xb_k]
        cases need 50 u.2 with
        | error e => rfl
        | ok y =>
          rw [xb_k, xb_k]
          cases cm x n u.2 with
          | error e => rfl
          | ok t5 =>
            rw [xb_k, xb_k, xb_k]
            cases need 51 t5 with
            | error e => rfl
            | ok y => rfl
def gaS (G : gE) (w : Int64) (p : Nat) (st : Nat → Int32) : Prop := ∀ d g, g < G.2.2.2.2 + 1 → (gAdd G w 2 (nI p) d).2.1 g = 2 → (gAdd G w 2 (nI p) d).2.2.1 g = st g
theorem gSr_a {G : gE} {w : Int64} {a d sr : Int32} (h : gSr G) (hs : sr = 0 ∨ sr = 1 ∨ sr = 2) : gSr (gAdd G w sr a d) := by
  intro g hg
  have hg2 : g < G.2.2.2.2 + 1 := hg
  unfold gAdd
  by_cases e : g = G.2.2.2.2
  · simp only [if_pos e]; exact hs
  · simp only [if_neg e]; exact h g (by omega)
section
variable (ln : Nat → Nat) (q : Nat) (x : Nat → Int32) (n tc : Nat) (fnd st : Nat → Int32)
/-- what comes of a FUNCTION -/
def FNq (P : yP) (w : Int64) (tk : yTok) (s D : Nat) (τ : zSt) (res : Except Int32 (yP × yTok × Nat)) (z : zSt) : Prop :=
  (∀ e, res = .error e → e ≠ 0 ∧ DS ln q e 240000 z ∧ fR q τ z) ∧
  (∀ P' t' c', res = .ok (P', t', c') → ∃ m A ms r s', P' = fnP P w m A ms ∧ CV ln q x n tc P'.1 lNo m fnd (-1) t' c' 0 s' P'.2.2.1 0 z ∧ fDc q s P.2.2.1 P.1.2.2.2.2 τ z ∧ CB n tc t' c' 0 s' P'.2.2.1 D ∧ tk.2.1 < t'.2.1 ∧ m ≤ 8 ∧ P'.1.2.2.2.2 ≤ t'.2.1 ∧ cdC ln q z P.2.2.1 ([37, nI ms] ++ ((gn st (nI m) A).2 (P.2.2.1 + 2) ++ [1, 0, 33, nI m])) ∧ zA z (6 * q - 21) s = 19 ∧ zA z (6 * q - 20) s = nI m ∧ zA z (6 * q - 19) s = r ∧ zA z (6 * q - 18) s = nI ms ∧ zA z (6 * q - 17) s = -1 ∧ (crp z q fnd m A).1 (s + 1) s' r ∧ zI z q 2 = zI τ q 2 ∧ zI z q 3 = (if w = yMain ∧ m = 0 then nI s else zI τ q 3) ∧ (1 < ln (q + 36) → 2 ≤ P.2.2.1 → zA z (q + 36) 1 = if w = yMain ∧ m = 0 then nI P.2.2.1 else zA τ (q + 36) 1))
end
section
variable {ln : Nat → Nat} {N M q cc : Nat} {x : Nat → Int32} {n tc : Nat} {P : yP} {np : Nat} {fnd st : Nat → Int32} {tk : yTok} {c s D : Nat} {σ τ u : zSt}
theorem FNq_e {e : Int32} {z : zSt} {w : Int64} {b : Nat} {res : Except Int32 (yP × yTok × Nat)} (hr : res = .error e) (he : e ≠ 0) (h : DS ln q e b z) (hf : fR q τ z) (hb : b ≤ 240000) : FNq ln q x n tc fnd st P w tk s D τ res z := by
  refine ⟨fun e' h' => ?_, fun A tk' c' h' => by rw [hr] at h'; cases h'⟩
  rw [hr] at h'
  cases h'
  exact ⟨he, DS_le h hb, hf⟩
theorem funC {w : Int64} {p0 : Nat} (hL : LN ln q cc) (hn : n ≤ 512) (hN : 5000 ≤ N) (hM : 43 ≤ M) (hG : P.1.2.2.2.2 + 1 ≤ tk.2.1) (hgs : gSr P.1) (hst : gaS P.1 w P.2.2.1 st) (hp0 : p0 ≤ 512) (h : CV ln q x n tc P.1 lNo np fnd (-1) tk c 0 s P.2.2.1 0 σ) (hB : CB n tc tk c 0 s P.2.2.1 (D + 1)) (hP : P.2.2.1 ≤ 4 + 20 * s) (hk : tk.2.2.1 = 49) (hfn : fnd P.1.2.2.2.2 = nI s) (h0 : yFun x n tc P w p0 tk c ≠ .error 0) :
    wp (obd (fX6_openFunction ln N M w (nI p0) σ) (fun _ σ33 => obd (fX6_block ln N M (fX6_statement ln N M M) σ33) (fun r34 σ35 => fX6_closeFunction ln N M r34 σ35))) (fun _ z => FNq ln q x n tc fnd st P w tk s D σ (yFun x n tc P w p0 tk c) z) := by
  have hq := hL.1
  have h15 := hL.2.1
  have hB2 := hB
  obtain ⟨b1, b2, b3, b4, b5, b6⟩ := hB
  have hp1 := b1.1
  have hp2 := b1.2.1
  have hnl := h.1.1.2.1
  have hSB0 : SBc 0 = 234100 := rfl
  generalize hres : yFun x n tc P w p0 tk c = res at h0 ⊢
  rw [yFun_of] at hres
  obtain ⟨M', rfl⟩ : ∃ g, M = g + 1 := ⟨M - 1, by omega⟩
  have hdead : ∀ e b z, res = .error e → e ≠ 0 → DS ln q e b z → b + 4 ≤ 240000 → fR q σ z → ∀ r, wp (fX6_closeFunction ln N (M' + 1) r z) (fun _ z => FNq ln q x n tc fnd st P w tk s D σ res z) := fun e b z hr he hd hb hf r => wp_mono (clFD hL (by omega) hd) (fun _ y hy => FNq_e hr he hy.1 (fR_trans hf hy.2) (by omega))
  refine wp_obd (wp_mono (openC2 (D := D) (w := w) (p0 := p0) hL hn hN hG hp0 h hB2 (by omega) hk hfn (fun w => h0 (by rw [← hres, w]; rfl))) (fun _ z hz => ?_))
  cases ho : yOf x n tc p0 tk c with
  | error e =>
    obtain ⟨he0, hd, hf⟩ := hz.1 e ho
    rw [ho, xb_e] at hres
    unfold fX6_block
    rw [bnd_e, bnd_e, bnd_e, bnd_e, bnd_e, comeD hd, obd_s, bnd_e]
    refine wp_obd (wp_mono (b31D hL (by omega) hd) (fun r u hu => ?_))
    exact hdead e _ u hres.symm he0 hu.1 (by omega) (fR_trans hf hu.2) r
  | ok v =>
    obtain ⟨L', t5, c1⟩ := v
    rw [ho, xb_k] at hres
    obtain ⟨o1, o2, o3, o4, o5, o6, o7, o8, o9, o10, o11, o12, o13, o14⟩ := hz.2 L' t5 c1 ho
    have hq1 := o3.1.1
    have hq2 := o3.1.2.1
    have hq3 := o3.2.2.2.2.1
    have hlt5 := tk_ne o3.1 o7 (by decide)
    have hgs2 : gSr (gAdd P.1 w 2 (nI P.2.2.1) (nI L'.2.2)) := gSr_a hgs (Or.inr (Or.inr rfl))
    refine wp_obd (wp_mono (blkC (D := D) (st := st) (N := N) (M := M' + 1) (ns := 0) hL hn hN hM hgs2 (hst (nI L'.2.2)) (stmC hL hn hN hM hgs2 (hst (nI L'.2.2)) 42 M' (by omega)) (stmD hL) o1 o3 (by omega) (show P.1.2.2.2.2 + 1 + L'.2.2 ≤ _ from o6) (by omega) (by omega) o7 (fun w => h0 (by rw [← hres, w]; rfl))) (fun r y hy => ?_))
    cases hb : yBlock x n tc (gAdd P.1 w 2 (nI P.2.2.1) (nI L'.2.2)) (yS x n tc (gAdd P.1 w 2 (nI P.2.2.1) (nI L'.2.2)) 42) 0 (lPlace L') 0 0 t5 c1 with
    | error e =>
      obtain ⟨he0, hd, hf⟩ := hy.1 e hb
      rw [hb, xb_e] at hres
      exact hdead e _ y hres.symm he0 hd (by omega) (fR_trans (fDc_R hq o2) hf) r
    | ok v =>
      obtain ⟨A, t', c', ms'⟩ := v
      rw [hb, xb_k] at hres
      obtain ⟨s', i0, ⟨y1, y1b, y1c⟩, y2, y3, y4, y5, y6, y7, y8, y9⟩ := hy.2 A t' c' ms' hb
      have hF2 := fSl_f y2
      rw [if_pos rfl] at y4
      subst y4
      have hcA := (crp_cnt A).1 _ _ _ y3
      have hgA := gl_le A
      have hq4 := y7.1.1
      have hq5 := y7.1.2.1
      have hq6 := y7.2.2.2.2.1
      have hpz := y7.2.2.2.2.2
      obtain ⟨z1, k1, k2, k3, k4, k5, k6, k7, k8, k9, k10, k11, k12⟩ := clsFC (N := N) (M := M' + 1) (st := st) hL y1 y1c ((hF2.1 2 7 (by unfold sI eI; omega)).trans o11) hfn (by omega) (by omega) hpz (show P.1.2.2.2.2 + 1 + L'.2.2 ≤ ln 15 by omega) (cdC_fSt hq hF2 (Nat.le_refl _) o8) y6 y3
      rw [k1]
      refine wp_s ⟨fun e h' => (by rw [← hres] at h'; cases h'), fun P1 t1 c1' h' => ?_⟩
      rw [← hres] at h'
      cases h'
      have hszz : (fnP P w L'.2.2 A ms').2.2.1 = P.2.2.1 + 2 + (gl A).2 + 4 := by show P.2.2.1 + (6 + (gl A).2) = _; omega
      have row : ∀ a i, ¬ (a = q + 36 ∧ P.2.2.1 ≤ i) → ¬ (6 * q - 19 ≤ a ∧ a ≤ 6 * q - 17 ∧ i = s) → zA z1 a i = zA y a i := fun a i c1 c2 => k7 a i (by omega) c2
      refine ⟨L'.2.2, A, ms', r, s', rfl, ?_, ?_, ?_, (show tk.2.1 < t'.2.1 by omega), o5, ?_, k8, ?_, ?_, k9, k10, k11, k12, ?_, ?_, fun e1 e2 => ?_⟩
      · show CV ln q x n tc (gAdd P.1 w 2 (nI P.2.2.1) (nI L'.2.2)) lNo L'.2.2 fnd (-1) t' c' 0 s' (fnP P w L'.2.2 A ms').2.2.1 0 z1
        rw [hszz]; exact k2
      · refine fDc_trans o2 (fDc_trans (fDc_S (fSt_trans (fSt_refl (nn := P.1.2.2.2.2) (s := s) (p := P.2.2.1)) hF2 (by omega) (by omega) (by show _ ≤ P.1.2.2.2.2 + 1 + L'.2.2; omega))) (⟨fun o k a => k3 o k (by unfold sI eI at a; unfold eI; omega), fun o k _ => k4 o k, k5, fun a i a1 a2 => k7 a i (by unfold sA eA at a1; omega) (by unfold sA eA at a1; omega), fun a i _ => k6 a i⟩ : fDc q s P.2.2.1 P.1.2.2.2.2 y z1) (Nat.le_refl _) (Nat.le_refl _) (Nat.le_refl _)) (Nat.le_refl _) (Nat.le_refl _) (Nat.le_refl _)
      · rw [hszz]
        exact ⟨y7.1, y7.2.1, b3, by omega, (show s' + D ≤ t'.2.1 by omega), by omega⟩
      · show P.1.2.2.2.2 + 1 ≤ t'.2.1
        have o6' : P.1.2.2.2.2 + 1 + L'.2.2 ≤ t5.2.1 := o6
        omega
      · rw [row _ _ (by omega) (by omega), hF2.2.2.2.1 _ _ (by unfold sA eA; omega)]; exact o9
      · rw [row _ _ (by omega) (by omega), hF2.2.2.2.1 _ _ (by unfold sA eA; omega)]; exact o10
      · rw [k3 _ _ (by unfold eI; omega), hF2.1 _ _ (by unfold sI eI; omega)]; exact o12
      · rw [k3 _ _ (by unfold eI; omega), hF2.1 _ _ (by unfold sI eI; omega)]; exact o13
      · rw [row _ _ (by omega) (by omega), hF2.2.2.2.1 _ _ (by unfold sA eA; omega)]; exact o14 e1 e2
end
