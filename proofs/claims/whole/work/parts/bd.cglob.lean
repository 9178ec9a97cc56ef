/-! THE CLASS: a GLOBAL -/
section
variable (ln : Nat → Nat) (q : Nat) (x : Nat → Int32) (n tc : Nat) (G : gE) (fnd : Nat → Int32)
def GLq (w : Int64) (sr : Int32) (gs : Nat) (tk : yTok) (c np s p D : Nat) (τ : zSt) (res : Except Int32 (Int32 × yTok)) (z : zSt) : Prop :=
  (∀ e, res = .error e → e ≠ 0 ∧ DS ln q e 11000 z ∧ fR q τ z) ∧
  (∀ v t6, res = .ok (v, t6) → CV ln q x n tc (gAdd G w sr (nI gs) v) lNo np fnd (-1) t6 c 0 s p 0 z ∧ fDc q s p G.2.2.2.2 τ z ∧ CB n tc t6 c 0 s p D ∧ tk.2.1 < t6.2.1 ∧ zI z q 2 = nI gs + v ∧ zI z q 3 = zI τ q 3 ∧ (∀ a i, 21 ≤ a → zA z a i = zA τ a i))
end
section
variable {ln : Nat → Nat} {N M q cc : Nat} {x : Nat → Int32} {n tc : Nat} {G : gE} {np : Nat} {fnd st : Nat → Int32} {tk : yTok} {c s p D gs : Nat} {σ τ u : zSt}
theorem GLq_e {e sr : Int32} {z : zSt} {w : Int64} {res : Except Int32 (Int32 × yTok)} (hr : res = .error e) (he : e ≠ 0) (h : DS ln q e 11000 z) (hf : fR q τ z) : GLq ln q x n tc G fnd w sr gs tk c np s p D τ res z := by
  refine ⟨fun e' h' => ?_, fun A tk' h' => by rw [hr] at h'; cases h'⟩
  rw [hr] at h'
  cases h'
  exact ⟨he, h, hf⟩
theorem gl50C {w : Int64} {sr v : Int32} {tk0 : yTok} {res : Except Int32 (Int32 × yTok)} (hL : LN ln q cc) (hn : n ≤ 512) (hN : 5000 ≤ N) (hG : G.2.2.2.2 ≤ tk0.2.1) (hlt0 : tk0.2.1 < tk.2.1) (hsr : sr ≠ 2) (h : CV ln q x n tc G lNo np fnd (-1) tk c 0 s p 0 σ) (hB : CB n tc tk c 0 s p D) (hF : fPm q G.2.2.2.2 τ σ) (hgs : zI τ q 2 = nI gs) (hres : res = xb (need 56 tk) (fun _ => xb (cm x n tk) (fun t6 => .ok (v, t6)))) :
    wp (fX6_global_b50 ln N M w sr v σ) (fun _ z => GLq ln q x n tc G fnd w sr gs tk0 c np s p D τ res z) := by
  have hq := hL.1
  have h15 := hL.2.1
  have hB2 := hB
  obtain ⟨b1, b2, b3, b4, b5, b6⟩ := hB
  have hp1 := b1.1
  have hp2 := b1.2.1
  have hnl := h.1.1.2.1
  have hdead : ∀ e z, res = .error e → e ≠ 0 → DS ln q e 11000 z → fR q τ z → wp (rbd (zR z 2 4) 9 10 (fun q5 => obd (fX4_add ln N M w sr (zI z q5 2) v z) (fun _ σ7 => rbd (zR σ7 2 4) 9 10 (fun q8 => bnd (zsI σ7 q8 2 ((zI σ7 q8 2) + v)) (fun σ9 => some ((), σ9)))))) (fun _ z => GLq ln q x n tc G fnd w sr gs tk0 c np s p D τ res z) := by
    intro e z hr he hd hf
    have := gl50D (N := N) (M := M) (w := w) (x3 := sr) (x4 := v) hL hd
    unfold fX6_global_b50 at this
    rw [passD hd, obd_s] at this
    exact wp_mono this (fun _ y hy => GLq_e hr he hy.1 (fR_trans hf hy.2))
  unfold fX6_global_b50 fX7_pass
  refine wp_obd ?_
  refine stNeed (D := D) (k := 56) hL hn (show G.2.2.2.2 + 0 ≤ n by omega) (by omega) h hB2 ?_ ?_
  · intro y hnd
    rw [hnd, xb_k] at hres
    have hk := need_kk hnd
    have hlt := tk_ne b1 hk (by decide)
    refine stCome (D := D) hL hn hN (show G.2.2.2.2 + 0 ≤ n by omega) (by omega) h hB2 ?_ ?_
    · intro t6 hcm hV1 hF1 hB1 hpl1
      rw [hcm, xb_k] at hres
      have hG1 : fPm q G.2.2.2.2 τ (cS x n tk.1 σ) := fPm_trans hF cS_Pm
      revert hV1 hG1
      generalize cS x n tk.1 σ = u1
      intro hV1 hG1
      refine wp_s ?_
      rw [rbP hL.1 hV1.1.2.1.2.2.1, show zI u1 q 2 = nI gs from (hG1.1 q 2 (by unfold eI; omega)).trans hgs, nAddC (k := G.2.2.2.2) hL (by omega) hV1.1.2.2.1.1, obd_s]
      obtain ⟨n1, n2, n3, n4⟩ := naS_Bk (σ := u1) (k := G.2.2.2.2) (w := w) (a := sr) (b := nI gs) (d := v)
      have h45 : zI (naS u1 G.2.2.2.2 w sr (nI gs) v) 4 5 = nI (G.2.2.2.2 + 1) := by unfold naS; rw [zI_I, if_pos ⟨rfl, rfl⟩]
      have nI3 : ∀ o k, ¬ (o = 4 ∧ k = 5) → zI (naS u1 G.2.2.2.2 w sr (nI gs) v) o k = zI u1 o k := fun o k hn => naS_I hn
      have nA3 : ∀ a i, ¬ (17 ≤ a ∧ a ≤ 20 ∧ i = G.2.2.2.2) → zA (naS u1 G.2.2.2.2 w sr (nI gs) v) a i = zA u1 a i := fun a i hn => naS_A hn
      have nB3 : ∀ i, i ≠ G.2.2.2.2 → zB (naS u1 G.2.2.2.2 w sr (nI gs) v) 16 i = zB u1 16 i := fun i hi => naS_B hi
      have nL3 : ∀ o k, zL (naS u1 G.2.2.2.2 w sr (nI gs) v) o k = zL u1 o k := fun _ _ => rfl
      have nR3 : ∀ o k, zR (naS u1 G.2.2.2.2 w sr (nI gs) v) o k = zR u1 o k := fun _ _ => rfl
      have nF3 := naS_f (q := q) (σ := u1) (k := G.2.2.2.2) (w := w) (a := sr) (b := nI gs) (d := v) s p
      revert n1 n2 n3 n4 h45 nI3 nA3 nB3 nL3 nR3 nF3
      generalize naS u1 G.2.2.2.2 w sr (nI gs) v = u2
      intro n1 n2 n3 n4 h45 nI3 nA3 nB3 nL3 nR3 nF3
      have hN2 : NV (gAdd G w sr (nI gs) v) lNo fnd u2 := ga_NV (L := lNo) (σ := u1) rfl rfl hV1.1.2.2.1 h45 (fun r i r1 r2 r3 => nA3 r i (by omega)) (fun i hi => nB3 i (by omega)) n1 n2 n3 n4 (fun e => absurd e hsr)
      rw [rbP hL.1 (show zR u2 2 4 = q + 1 from (nR3 _ _).trans hV1.1.2.1.2.2.1), bnd_e, show zI u2 q 2 = nI gs from (nI3 q 2 (by omega)).trans ((hG1.1 q 2 (by unfold eI; omega)).trans hgs)]
      have hN3 : NV (gAdd G w sr (nI gs) v) lNo fnd (zsI u2 q 2 (nI gs + v)) := ⟨by rw [zI_I, if_neg (by omega)]; exact hN2.1, hN2.2.1, hN2.2.2⟩
      have hV3 := CV_nm (u := zsI u2 q 2 (nI gs + v)) hL hV1 (fun o k o1 o2 _ => by rw [zI_I, if_neg (by omega)]; exact nI3 o k (by omega)) nL3 nR3 (fun j => by rw [zA_I]; exact nA3 15 j (by omega)) hN3
      refine wp_s ⟨fun e h' => (by rw [hres] at h'; cases h'), fun v1 t1 h' => ?_⟩
      rw [hres] at h'
      cases h'
      refine ⟨hV3, ?_, hB1, by omega, by rw [zI_I, if_pos ⟨rfl, rfl⟩], ?_, fun a i ha => ?_⟩
      · refine fDc_trans (fDc_P hG1 (Nat.le_refl _)) (fDc_trans (fDc_S nF3) (⟨fun o k a => by rw [zI_I, if_neg (by omega)], fun _ _ _ => rfl, fun _ _ => rfl, fun a i _ _ => by rw [zA_I], fun _ _ _ => rfl⟩ : fDc q s p G.2.2.2.2 u2 (zsI u2 q 2 (nI gs + v))) (Nat.le_refl _) (Nat.le_refl _) (Nat.le_refl _)) (Nat.le_refl _) (Nat.le_refl _) (Nat.le_refl _)
      · rw [zI_I, if_neg (by omega), nI3 _ _ (by omega)]
        exact hG1.1 q 3 (by unfold eI; omega)
      · rw [zA_I, nA3 _ _ (by omega)]
        exact hG1.2.2.2.1 a i (by omega)
    · intro e z hcm he0 hE
      rw [hcm, xb_e] at hres
      exact wp_s (hdead e z hres he0 hE.1 (fR_trans (fPm_R hq hF) hE.2))
  · intro e z hnd he0 hE
    rw [hnd, xb_e] at hres
    rw [comeD hE.1, obd_s]
    exact wp_s (hdead e z hres he0 hE.1 (fR_trans (fPm_R hq hF) hE.2))
end
