/-! THE CLASS: all declarations of a text -/
section
variable {ln : Nat → Nat} {N M q cc : Nat} {x : Nat → Int32} {n tc : Nat} {e : Int32} {b : Nat} {σ : zSt}
theorem b68D {m : Nat} {i : Int32} (hL : LN ln q cc) (h : DS ln q e b σ) : fX6_readAll_b68 ln N M (m + 1) i σ = some (e, zsI σ q 4 0) := by
  rw [fX6_readAll_b68]
  by_cases c : zI σ 1 1 < i
  · rw [if_pos c]; exact finD hL h
  · rw [if_neg c, h.2.2.1, if_neg (by decide)]; exact finD hL h
theorem fR_q4 {v : Int32} {τ : zSt} (h : fR q τ σ) : fR q τ (zsI σ q 4 v) :=
  ⟨fun o k a => (by rw [zI_I, if_neg (fun w => a (by unfold okI; omega))]; exact h.1 o k a), h.2.1, h.2.2.1, h.2.2.2.1, h.2.2.2.2⟩
end
/-- the end: main, and enough cells -/
def yFi (n cc : Nat) (r : Except Int32 yP) : Except Int32 yP := xb r (fun P => if yHas P = true then (if P.2.2.1 ≤ cc then .ok P else er 10 n) else er 7 n)
theorem yAll_s {x : Nat → Int32} {n tc cc : Nat} : yAll x n tc cc = xb (cm x n (0, 0, 0, 0)) (fun t0 => yFi n cc (yDecls x n tc (n + 2) yP0 t0 0)) := by
  unfold yAll yRead yFi
  cases cm x n (0, 0, 0, 0) with
  | error e => rfl
  | ok t0 =>
    rw [xb_k, xb_k]
    cases yDecls x n tc (n + 2) yP0 t0 0 with
    | error e => rfl
    | ok P =>
      rw [xb_k, xb_k]
      by_cases c : yHas P = true
      · rw [if_pos c, if_pos c, xb_k]
      · rw [if_neg c, if_neg c]; rfl
theorem mnF_has {P : yP} {f : Nat → Nat} (hf : ∀ m, m < P.1.2.2.2.2 → f m < 2 ^ 31) : (0 ≤ mnF P (fun m => nI (f m)) (-1) ↔ yHas P = true) := by
  unfold mnF yHas
  cases hl : lkN P.1.1 yMain P.1.2.2.2.2 with
  | none => exact ⟨fun h => absurd (show (0 : Int32) ≤ -1 from h) (by decide), fun h => (by cases h)⟩
  | some m =>
    show (0 ≤ (if P.1.2.1 m = 2 ∧ P.1.2.2.2.1 m = 0 then nI (f m) else (-1 : Int32)) ↔ decide (P.1.2.1 m = 2 ∧ P.1.2.2.2.1 m = 0) = true)
    by_cases c : P.1.2.1 m = 2 ∧ P.1.2.2.2.1 m = 0
    · rw [if_pos c]
      refine ⟨fun _ => decide_eq_true c, fun _ => ?_⟩
      rw [Int32.le_iff_toInt_le, nI_toInt (hf m (lkN_lt hl).1)]
      have z0 : (0 : Int32).toInt = 0 := rfl
      omega
    · rw [if_neg c]
      refine ⟨fun h => absurd h (by decide), fun h => absurd (of_decide_eq_true h) c⟩
section
variable (ln : Nat → Nat) (q : Nat) (x : Nat → Int32) (n tc : Nat)
/-- between two declarations -/
def LPv (E P : yP) (tk : yTok) (c : Nat) (σ : zSt) : Prop := (∃ np, CV ln q x n tc P.1 lNo np (fun g => nI (nst E g)) (-1) tk c 0 (nst P P.1.2.2.2.2) P.2.2.1 0 σ) ∧ CB n tc tk c 0 (nst P P.1.2.2.2.2) P.2.2.1 0 ∧ PCv ln E q P σ
/-- what comes of reading all -/
def RAq (σ : zSt) (res : Except Int32 yP) (r : Int32) (z : zSt) : Prop := fR q σ z ∧ (∀ e, res = .error e → r = e) ∧ (∀ P, res = .ok P → r = 0 ∧ PCv ln P q P z ∧ zI z q 4 = 1 ∧ zI z (q + 2) 6 = nI (nst P P.1.2.2.2.2) ∧ zI z (q + 4) 1 = nI P.2.2.1 ∧ P.2.2.1 ≤ ln (q + 36) ∧ nst P P.1.2.2.2.2 ≤ ln 15)
end
section
variable {ln : Nat → Nat} {N M q cc : Nat} {x : Nat → Int32} {n tc : Nat}
theorem PCv_4 {E P : yP} {σ z : zSt} (hq : q = 9 ∨ q = 10) (h : PCv ln E q P σ) (hi : ∀ k, k ≠ 4 → zI z q k = zI σ q k) (ha : ∀ a i, zA z a i = zA σ a i) : PCv ln E q P z := by
  obtain ⟨p1, p2, p3, p4, p5⟩ := h
  exact ⟨(hi 2 (by omega)).trans p1, (hi 3 (by omega)).trans p2, cdC_keep p3 (fun i _ _ => ha _ _), cdC_keep p4 (fun i _ _ => ha _ _), fun g hg hk => by
    obtain ⟨m, A, r, h1, h2, h3, h4, h5, h6, h7, h8, h9⟩ := p5 g hg hk
    exact ⟨m, A, r, h1, h2, h3, (ha _ _).trans h4, (ha _ _).trans h5, (ha _ _).trans h6, (ha _ _).trans h7, (ha _ _).trans h8, (crp_frame (fnd' := fun g => nI (nst E g)) hq A).1 _ _ _ (fun a m _ _ _ _ => ha a m) h9⟩⟩
theorem finA {E P : yP} {tk : yTok} {c : Nat} {σ : zSt} (hL : LN ln q cc) (hn : n ≤ 512) (hE : E = P) (h : LPv ln q x n tc E P tk c σ) (hk : tk.2.2.1 = 58) : wp (fX6_readAll_b162 ln N M σ) (fun r z => RAq ln q σ (yFi n cc (.ok P)) r z) := by
  subst hE
  obtain ⟨⟨np, hV⟩, hB, hP⟩ := h
  have hq := hL.1
  have hcc := hL.2.2.2.2.2.2.2.2.2.2.2
  have hs1 := hB.2.2.2.2.1
  have ht1 := hB.1.1
  have ht2 := hB.1.2.1
  have hpp := hB.2.2.2.2.2
  obtain ⟨f1, f2, f3⟩ := finL (N := N) (M := M) (p := E.2.2.1) hL hV.2.2.1 (hV.2.1.2.2.1.trans hk) hV.1.2.1 hV.1.1.1 (by omega) hV.2.2.2.2.2.2.1 (by omega) (by omega)
  have hm : (0 ≤ zI σ q 3 ↔ yHas E = true) := by
    rw [hP.2.1]
    exact mnF_has (fun m hm => by have := nst_mono (P := E) (Nat.le_of_lt hm); omega)
  have hfl : ∀ e : Int32, fR q σ (flC σ e) := fun e => ⟨fun o k a => (by unfold flC; unfold okI at a; rw [zI_I, if_neg (by omega), zI_I, if_neg (by omega)]), fun _ _ _ => rfl, fun _ _ => rfl, fun _ _ _ => rfl, fun _ _ _ => rfl⟩
  unfold yFi
  rw [xb_k]
  by_cases c1 : yHas E = true
  · rw [if_pos c1]
    by_cases c2 : E.2.2.1 ≤ cc
    · rw [if_pos c2, f1 (hm.mpr c1) (by rw [hcc.1]; exact c2)]
      refine wp_s ⟨fR_q4 fR_refl, fun e h' => (by cases h'), fun Q h' => ?_⟩
      cases h'
      refine ⟨rfl, PCv_4 hq hP (fun k hk => by rw [zI_I, if_neg (by omega)]) (fun _ _ => rfl), by rw [zI_I, if_pos ⟨rfl, rfl⟩], ?_, ?_, by rw [hcc.1]; exact c2, by have := hV.1.1.2.1; omega⟩
      · rw [zI_I, if_neg (by omega)]; exact hV.2.2.2.2.2.1
      · rw [zI_I, if_neg (by omega)]; exact hV.2.2.2.2.2.2.1
    · rw [if_neg c2, f2 (hm.mpr c1) (by rw [hcc.1]; omega)]
      refine wp_s ⟨fR_q4 (hfl _), fun e h' => ?_, fun Q h' => by cases h'⟩
      unfold er at h'
      cases h'
      rfl
  · rw [if_neg c1, f3 (fun w => c1 (hm.mp w))]
    refine wp_s ⟨fR_q4 (hfl _), fun e h' => ?_, fun Q h' => by cases h'⟩
    unfold er at h'
    cases h'
    rfl
theorem loopA (hL : LN ln q cc) (hn : n ≤ 512) (hN : 5000 ≤ N) (hM : 43 ≤ M) : ∀ (f : Nat) (P : yP) (tk : yTok) (c i m : Nat) (σ : zSt), pOk P tk → LPv ln q x n tc (yEnd x n tc f P tk c) P tk c σ → i ≤ tk.2.1 → n + 2 ≤ m + i → n + 1 ≤ f + tk.2.1 →
    wp (fX6_readAll_b68 ln N M m (nI i) σ) (fun r z => RAq ln q σ (yFi n cc (yDecls x n tc f P tk c)) r z) := by
  intro f
  induction f with
  | zero =>
    intro P tk c i m σ hO h hi hm hf
    have := h.2.1.1.1
    have := h.2.1.1.2.1
    omega
  | succ f ih =>
    intro P tk c i m σ hO h hi hm hf
    have hq := hL.1
    have ht1 := h.2.1.1.1
    have ht2 := h.2.1.1.2.1
    obtain ⟨m, rfl⟩ : ∃ g, m = g + 1 := ⟨m - 1, by omega⟩
    have hX := yEnd_ext (x := x) (n := n) (tc := tc) (f + 1) P tk c
    have hEk : tk.2.2.1 = 58 → yEnd x n tc (f + 1) P tk c = P := fun e => by rw [yEnd, if_pos e]
    have hEs : ∀ u, tk.2.2.1 ≠ 58 → yDecl x n tc P tk c = .ok u → yEnd x n tc (f + 1) P tk c = yEnd x n tc f u.1 u.2.1 u.2.2 := fun u => yEnd_s
    revert h hX hEk hEs
    generalize yEnd x n tc (f + 1) P tk c = E
    intro h hX hEk hEs
    have h' := h
    obtain ⟨⟨np, hV⟩, hB, hP⟩ := h'
    have hok := yDecl_ok (x := x) (n := n) (tc := tc) (by omega) hO hB.1 hB.2.1
    rw [fX6_readAll_b68, hV.1.1.1, if_neg (by rw [nI_ltI (by omega) (by omega)]; omega), hV.2.1.2.2.1, yDecls]
    by_cases k58 : tk.2.2.1 = 58
    · rw [if_pos k58, if_neg (by rw [k58]; decide)]
      exact finA hL hn (hEk k58) h k58
    rw [if_neg k58]
    by_cases k42 : tk.2.2.1 = 42
    · rw [if_pos k42]
      have hng := yExt_nst hX (Nat.le_refl P.1.2.2.2.2)
      have hgs : gSr P.1 := fun g hg => (hO.1 g hg).elim (fun a => Or.inl a.1) (fun a => a.elim (fun a => Or.inr (Or.inl a.1)) (fun a => Or.inr (Or.inr a.1)))
      have hst : ∀ w, gaS P.1 w P.2.2.1 (fun g => nI (szN E g)) := by
        intro w d g hg hk
        by_cases e : g = P.1.2.2.2.2
        · rw [e]
          show (if P.1.2.2.2.2 = P.1.2.2.2.2 then nI P.2.2.1 else _) = nI (szN E P.1.2.2.2.2)
          rw [if_pos rfl, hng.2, hO.2.2.2.2.2]
        · have hg2 : g < P.1.2.2.2.2 := by omega
          have e1 : (gAdd P.1 w 2 (nI P.2.2.1) d).2.2.1 g = P.1.2.2.1 g := if_neg e
          have e2 : (gAdd P.1 w 2 (nI P.2.2.1) d).2.1 g = P.1.2.1 g := if_neg e
          show _ = nI (szN E g)
          rw [e1, (hO.2.2.2.2.1 g hg2 (e2.symm.trans hk)).1, ((yExt_nst hX (Nat.le_of_lt hg2)).2)]
      have hle : P.2.2.1 ≤ 4 + 20 * nst P P.1.2.2.2.2 := by
        rw [hO.2.2.2.2.2]
        refine szN_le _ (fun g hg hk => ?_)
        obtain ⟨m', A, r, h1, h2, h3, _⟩ := hP.2.2.2.2 g hg hk
        rw [← (hX.2 g hg).1, h3, cN_N]; omega
      have h0 : yDecl x n tc P tk c ≠ .error 0 := fun e => by rw [e] at hok; exact hok rfl
      have dead : ∀ e b z, yDecl x n tc P tk c = .error e → DS ln q e b z → fR q σ z → wp (fX6_readAll_b156 ln N M (fX6_readAll_b68 ln N M m) (nI i) z) (fun r z => RAq ln q σ (yFi n cc (xb (yDecl x n tc P tk c) (fun u => yDecls x n tc f u.1 u.2.1 u.2.2))) r z) := by
        intro e b z he hd hf
        unfold fX6_readAll_b156
        rw [bnd_e]
        obtain ⟨m', rfl⟩ : ∃ g, m = g + 1 := ⟨m - 1, by omega⟩
        rw [b68D hL hd, he, xb_e]
        refine wp_s ⟨fR_q4 hf, fun e' h' => ?_, fun Q h' => by cases h'⟩
        cases h'
        rfl
      have next : ∀ P1 t' c' z, yDecl x n tc P tk c = .ok (P1, t', c') → fR q σ z → LPv ln q x n tc E P1 t' c' z → tk.2.1 + 1 ≤ t'.2.1 → wp (fX6_readAll_b156 ln N M (fX6_readAll_b68 ln N M m) (nI i) z) (fun r z => RAq ln q σ (yFi n cc (xb (yDecl x n tc P tk c) (fun u => yDecls x n tc f u.1 u.2.1 u.2.2))) r z) := by
        intro P1 t' c' z he hf hv hlt
        unfold fX6_readAll_b156
        rw [bnd_e, show nI i + (1 : Int32) = nI (i + 1) from nI_add _ 1, he, xb_k]
        rw [he] at hok
        have hE2 := hEs (P1, t', c') k58 he
        refine wp_mono (ih P1 t' c' (i + 1) m z hok.1 (by rw [← show E = yEnd x n tc f P1 t' c' from hE2]; exact hv) (by omega) (by omega) (by omega)) (fun r y hy => ⟨fR_trans hf hy.1, hy.2⟩)
      refine declC (f := fun z => fX6_readAll_b156 ln N M (fX6_readAll_b68 ln N M m) (nI i) z) (st := fun g => nI (szN E g)) hL hn hN hM hO.2.1 hgs hst hV hB hle k42 (by show nI (nst E P.1.2.2.2.2) = _; rw [hng.1]) hP.1 h0 ?_ ?_ ?_
      · intro w t1 t2 z u l1 l2 hy hu hz
        cases hd : yDecl x n tc P tk c with
        | error e =>
          obtain ⟨d1, d2, d3⟩ := hz.1 e hd
          rw [← hd]
          exact dead e _ z hd d2 (fR_trans (fPm_R hq hu) d3)
        | ok v =>
          obtain ⟨P1, t', c'⟩ := v
          obtain ⟨m', A, ms, r, s', z1, z2, z3, z4, z5, z6, z7, z8, z9, z10, z11, z12, z13, z14, z15, z16, z17⟩ := hz.2 P1 t' c' hd
          have hXE : yExt P1 E := by
            rw [hEs _ k58 hd]
            exact yEnd_ext _ _ _ _
          have hok1 := hok
          rw [hd] at hok1
          have hO1 : pOk P1 t' := hok1.1
          rw [← hd]
          have hsz : 4 ≤ P.2.2.1 := by
            rw [hO.2.2.2.2.2]
            exact szN_mono (P := P) (Nat.zero_le _)
          subst z1
          obtain ⟨r1, r2⟩ := PCv_fn (r := r) (s' := s') (z := z) hL hXE hO1.2.2.2.1 hO.2.2.2.2.2 z6 hP (z15.trans (hu.1 q 2 (by unfold eI; omega))) (by rw [z16, hu.1 q 3 (by unfold eI; omega)]) (fun a => by rw [z17 a (by omega), hu.2.2.2.1 _ _ (by omega)]) (fun a j hj => by rw [z3.2.2.2.1 a j (by unfold sA eA; omega) (by omega), hu.2.2.2.1 _ _ (by omega)]) z8 ⟨z9, z10, z11, z12, z13⟩ z14
          refine next _ t' c' z hd (fR_trans (fPm_R hq hu) (fDc_R hq z3)) ⟨⟨m', ?_⟩, ?_, r1⟩ (by omega)
          · rw [show nst (fnP P w m' A ms) (fnP P w m' A ms).1.2.2.2.2 = s' from r2.symm]; exact z2
          · rw [show nst (fnP P w m' A ms) (fnP P w m' A ms).1.2.2.2.2 = s' from r2.symm]; exact z4
      · intro w t1 t2 z u l1 l2 hy hu hz
        cases hg : yGl x n t2 with
        | error e =>
          rw [hg, xb_e] at hy
          obtain ⟨d1, d2, d3⟩ := hz.1 e hg
          exact dead e _ z hy d2 (fR_trans (fPm_R hq hu) d3)
        | ok v =>
          obtain ⟨v, t6⟩ := v
          rw [hg, xb_k] at hy
          obtain ⟨g1, g2, g3, g4, g5, g6, g7⟩ := hz.2 v t6 hg
          obtain ⟨sr, hsr⟩ : ∃ sr : Int32, sr = if t2.2.2.1 = 53 then 1 else 0 := ⟨_, rfl⟩
          have hsr2 : sr ≠ 2 := by rw [hsr]; split <;> decide
          rw [← hsr] at hy g1
          obtain ⟨P1, hP1⟩ : ∃ P1 : yP, P1 = (gAdd P.1 w sr (nI P.2.1) v, P.2.1 + v.toNatClampNeg, P.2.2) := ⟨_, rfl⟩
          have hy' : yDecl x n tc P tk c = .ok (P1, t6, c) := by rw [hP1]; exact hy
          have hg1 : P1.1 = gAdd P.1 w sr (nI P.2.1) v := by rw [hP1]
          have hg2 : P1.2.1 = P.2.1 + v.toNatClampNeg := by rw [hP1]
          have hg3 : P1.2.2.1 = P.2.2.1 := by rw [hP1]
          have hn1 : P1.1.2.2.2.2 = P.1.2.2.2.2 + 1 := by rw [hg1]; rfl
          have hXP : yExt P P1 := by rw [hP1]; exact yExt_gl
          have hXE : yExt P1 E := by
            rw [hEs _ k58 hy']
            exact yEnd_ext _ _ _ _
          have hok1 := hok
          rw [hy'] at hok1
          have hO1 : pOk P1 t6 := hok1.1
          have hv1 : 1 ≤ v.toInt := by
            by_cases k53 : t2.2.2.1 = 53
            · have := hO1.1 P.1.2.2.2.2 (by omega)
              rw [if_pos k53] at hsr
              have e1 : P1.1.2.1 P.1.2.2.2.2 = 1 := by rw [hg1]; exact (if_pos rfl).trans hsr
              have e2 : P1.1.2.2.2.1 P.1.2.2.2.2 = v := by rw [hg1]; exact if_pos rfl
              rw [e1, e2] at this
              rcases this with a | a | a
              · exact absurd a.1 (by decide)
              · exact a.2.2.1
              · exact absurd a.1 (by decide)
            · unfold yGl at hg
              rw [if_neg k53, xb_k] at hg
              cases h5 : need 56 t2 with
              | error e => rw [h5] at hg; cases hg
              | ok y =>
                rw [h5, xb_k] at hg
                cases h6 : cm x n t2 with
                | error e => rw [h6] at hg; cases hg
                | ok y =>
                  rw [h6, xb_k] at hg
                  cases hg
                  show (1 : Int) ≤ (1 : Int32).toInt
                  decide
          have hns : nst P1 P1.1.2.2.2.2 = nst P P.1.2.2.2.2 := by
            rw [hn1, nst, show P1.1.2.1 P.1.2.2.2.2 = sr by rw [hg1]; exact if_pos rfl, if_neg hsr2]
            exact (yExt_nst hXP (Nat.le_refl P.1.2.2.2.2)).1
          have r1 := PCv_gl (z := z) (w := w) (a := nI P.2.1) (d := v) (sr := sr) hL hXE hg1 hO1.2.2.2.1 hsr2 hP (by rw [hg2]; exact g5.trans (nI_addS hv1)) (g6.trans (hu.1 q 3 (by unfold eI; omega))) (fun a j ha => by rw [g7 a j ha, hu.2.2.2.1 _ _ (by omega)])
          refine next P1 t6 c z hy' (fR_trans (fPm_R hq hu) (fDc_R hq g2)) ⟨⟨np, ?_⟩, ?_, r1⟩ (by omega)
          · rw [hns, hg3, hg1]; exact g1
          · rw [hns, hg3]; exact g3
      · intro e z he he0 hd hf
        exact dead e _ z he hd hf
    · rw [if_neg k42]
      have hdc : yDecl x n tc P tk c = er 2 tk.2.1 := by
        rw [yDecl_s, show need 42 tk = er 2 tk.2.1 by unfold need; rw [if_neg k42]]
        rfl
      rw [hdc]
      unfold fX6_readAll_b162
      refine stNeed (D := 0) hL hn (show P.1.2.2.2.2 + 0 ≤ n by have := hO.2.1; omega) (by omega) hV hB ?_ ?_
      · intro y hy
        exact absurd (need_kk hy) k58
      · intro e z he he0 hE
        have hf := finD (N := N) (M := M) hL hE.1
        unfold fX6_readAll_b162 at hf
        rw [needD hE.1, obd_s] at hf
        rw [hf]
        have he2 : need 58 tk = er 2 tk.2.1 := by unfold need; rw [if_neg k58]
        rw [he2] at he
        unfold er at he ⊢
        cases he
        refine wp_s ⟨fR_q4 hE.2, fun e' h' => ?_, fun Q h' => by cases h'⟩
        cases h'
        rfl
end
