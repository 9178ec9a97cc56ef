/-! THE CLASS: a declaration -/
theorem obd_as {α β γ : Type} {a : Option (α × zSt)} {g : α → zSt → Option (β × zSt)} {f : β → zSt → Option (γ × zSt)} : obd (obd a g) f = obd a (fun r z => obd (g r z) f) := by
  cases a with
  | none => rfl
  | some v => obtain ⟨r, z⟩ := v; rfl
def tlDc (ln : Nat → Nat) (N M : Nat) {β : Type} (f : zSt → Option (β × zSt)) (x25 : Int32) (x26 : Int64) (σ28 : zSt) : Option (β × zSt) :=
        if (zI σ28 1 3) = (49 : Int32) then (
          obd (fX6_openFunction ln N M x26 x25 σ28) (fun _ σ33 =>
          obd (fX6_block ln N M (fX6_statement ln N M M)  σ33) (fun r34 σ35 =>
          obd (fX6_closeFunction ln N M r34 σ35) (fun _ σ37 => f σ37))))
        else (
          obd (fX6_global ln N M x26 σ28) (fun _ σ30 => f σ30))
section
variable {ln : Nat → Nat} {N M q cc : Nat} {x : Nat → Int32} {n tc : Nat} {P : yP} {np : Nat} {fnd st : Nat → Int32} {tk : yTok} {c s D : Nat} {σ : zSt} {β : Type} {Q : β → zSt → Prop} {f : zSt → Option (β × zSt)}
theorem declC (hL : LN ln q cc) (hn : n ≤ 512) (hN : 5000 ≤ N) (hM : 43 ≤ M) (hG : P.1.2.2.2.2 ≤ tk.2.1) (hgs : gSr P.1) (hst : ∀ w, gaS P.1 w P.2.2.1 st) (h : CV ln q x n tc P.1 lNo np fnd (-1) tk c 0 s P.2.2.1 0 σ) (hB : CB n tc tk c 0 s P.2.2.1 0) (hP : P.2.2.1 ≤ 4 + 20 * s) (hk : tk.2.2.1 = 42) (hfn : fnd P.1.2.2.2.2 = nI s) (hg2 : zI σ q 2 = nI P.2.1) (h0 : yDecl x n tc P tk c ≠ .error 0)
    (hfun : ∀ (w : Int64) (t1 t2 : yTok) (z u : zSt), tk.2.1 < t1.2.1 → t1.2.1 < t2.2.1 → yDecl x n tc P tk c = yFun x n tc P w t1.2.1 t2 c → fPm q P.1.2.2.2.2 σ u → FNq ln q x n tc fnd st P w t2 s 0 u (yDecl x n tc P tk c) z → wp (f z) Q)
    (hglo : ∀ (w : Int64) (t1 t2 : yTok) (z u : zSt), tk.2.1 < t1.2.1 → t1.2.1 < t2.2.1 → yDecl x n tc P tk c = xb (yGl x n t2) (fun v => .ok ((gAdd P.1 w (if t2.2.2.1 = 53 then 1 else 0) (nI P.2.1) v.1, P.2.1 + v.1.toNatClampNeg, P.2.2), v.2, c)) → fPm q P.1.2.2.2.2 σ u → GLq ln q x n tc P.1 fnd w (if t2.2.2.1 = 53 then 1 else 0) P.2.1 t1 c np s P.2.2.1 0 u (yGl x n t2) z → wp (f z) Q)
    (her : ∀ e z, yDecl x n tc P tk c = .error e → e ≠ 0 → DS ln q e 240000 z → fR q σ z → wp (f z) Q) :
    wp (obd (fX7_come ln N M σ) (fun _ σ24 => bnd (zI σ24 1 4) (fun x25 => bnd (zL σ24 1 5) (fun x26 => obd (fX6_toldName ln N M (0 : Int32) σ24) (fun _ σ28 => tlDc ln N M f x25 x26 σ28))))) Q := by
  have hq := hL.1
  have hB2 := hB
  obtain ⟨b1, b2, b3, b4, b5, b6⟩ := hB
  have hp1 := b1.1
  have hp2 := b1.2.1
  have hlt := tk_ne b1 hk (by decide)
  have hnl := h.1.1.2.1
  generalize hres : yDecl x n tc P tk c = res at h0 hfun hglo her
  rw [yDecl_s, show need 42 tk = .ok () by unfold need; rw [if_pos hk], xb_k] at hres
  have hdead : ∀ e z x25 x26, res = .error e → e ≠ 0 → DS ln q e 11000 z → fR q σ z → wp (tlDc ln N M f x25 x26 z) Q := by
    intro e z x25 x26 hr he hd hf
    unfold tlDc
    rw [hd.2.2.1, if_neg (by decide)]
    exact wp_obd (wp_mono (globD hL hd) (fun _ y hy => her e y hr he (DS_le hy.1 (by omega)) (fR_trans hf hy.2)))
  refine stCome (D := 0) hL hn hN (show P.1.2.2.2.2 + 0 ≤ n by omega) (by omega) h hB2 ?_ ?_
  · intro t1 hcm hV1 hF1 hB1 hpl1
    rw [hcm, xb_k] at hres
    have hG1 : fPm q P.1.2.2.2.2 σ (cS x n tk.1 σ) := cS_Pm
    revert hV1 hG1
    generalize cS x n tk.1 σ = u1
    intro hV1 hG1
    have hq1 := hB1.1.1
    have hq2 := hB1.1.2.1
    rw [bnd_e, bnd_e, hV1.2.1.2.1]
    refine stTold (D := 1) (dup := (lkN P.1.1 t1.2.2.2 P.1.2.2.2.2).isSome) hL hn hN (show P.1.2.2.2.2 + 0 ≤ n by omega) (by omega) hV1 ⟨hB1.1, b2, b3, b4, by omega, b6⟩ (findG hL hN (by omega) hV1.1.2.2.1) ?_ ?_
    · intro t2 hk40 hdup hcm2 hV2 hF2 hB2 hpl2
      have hlt1 := tk_ne hB1.1 hk40 (by decide)
      have hto : yTo x n P.1 t1 = .ok t2 := by
        unfold yTo
        rw [show need 40 t1 = .ok () by unfold need; rw [if_pos hk40], xb_k, hdup, if_neg (by decide)]
        exact hcm2
      rw [hto, xb_k] at hres
      rw [hV1.2.1.2.2.2.1 hk40]
      have hG2 : fPm q P.1.2.2.2.2 σ (cS x n t1.1 u1) := fPm_trans hG1 cS_Pm
      revert hV2 hG2
      generalize cS x n t1.1 u1 = u2
      intro hV2 hG2
      have hq3 := hB2.1.1
      have hq4 := hB2.1.2.1
      unfold tlDc
      rw [hV2.2.1.2.2.1]
      by_cases k49 : t2.2.2.1 = 49
      · rw [if_pos k49] at hres ⊢
        have hgo := funC (D := 0) (w := t1.2.2.2) (p0 := t1.2.1) hL hn hN hM (by omega) hgs (hst _) (by omega) hV2 hB2 hP k49 hfn (by rw [hres]; exact h0)
        rw [hres] at hgo
        have := wp_obd (f := fun _ z => f z) (wp_mono hgo (fun _ z hz => hfun t1.2.2.2 t1 t2 z u2 (by omega) (by omega) hres.symm hG2 hz))
        rw [obd_as] at this
        simp only [obd_as] at this
        exact this
      · rw [if_neg k49] at hres ⊢
        exact wp_obd (wp_mono (globC (D := 0) (gs := P.2.1) (tk0 := t1) hL hn hN (by omega) (by omega) hV2 ⟨hB2.1, b2, b3, b4, by omega, b6⟩ ((hG2.1 q 2 (by unfold eI; omega)).trans hg2)) (fun _ z hz => hglo t1.2.2.2 t1 t2 z u2 (by omega) (by omega) hres.symm hG2 hz))
    · intro e z hto he0 hE
      rw [show yTo x n P.1 t1 = .error e from hto, xb_e] at hres
      exact hdead e z _ _ hres.symm he0 hE.1 (fR_trans (fPm_R hq hG1) hE.2)
  · intro e z hcm he0 hE
    rw [hcm, xb_e] at hres
    rw [bnd_e, bnd_e, toldD hE.1, obd_s]
    exact hdead e z _ _ hres.symm he0 hE.1 hE.2
end
