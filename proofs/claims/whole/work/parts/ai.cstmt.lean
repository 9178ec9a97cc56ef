/-! THE CLASS: S -/
def SBc (ns : Nat) : Nat := 230000 + 100 * (41 - ns)
def sI (q o k : Nat) : Prop := eI q o k ∨ (o = 2 ∧ (k = 8 ∨ k = 9)) ∨ (o = 4 ∧ k = 5)
def sA (q s p nn a i : Nat) : Prop := eA q s p 0 a i ∨ (17 ≤ a ∧ a ≤ 20 ∧ nn ≤ i)
/-- what an S changes -/
def fSt (q s p nn : Nat) (τ u : zSt) : Prop := (∀ o k, ¬ sI q o k → zI u o k = zI τ o k) ∧ (∀ o k, o ≠ 1 → zL u o k = zL τ o k) ∧ (∀ o k, zR u o k = zR τ o k) ∧ (∀ a i, ¬ sA q s p nn a i → zA u a i = zA τ a i) ∧ (∀ a i, ¬ (a = 16 ∧ nn ≤ i) → zB u a i = zB τ a i)
theorem fSt_refl {q s p nn : Nat} {τ : zSt} : fSt q s p nn τ τ := ⟨fun _ _ _ => rfl, fun _ _ _ => rfl, fun _ _ => rfl, fun _ _ _ => rfl, fun _ _ _ => rfl⟩
theorem fSt_trans {q s p nn s' p' nn' : Nat} {τ u v : zSt} (h : fSt q s p nn τ u) (h2 : fSt q s' p' nn' u v) (hs : s ≤ s') (hp : p ≤ p') (hn : nn ≤ nn') : fSt q s p nn τ v :=
  ⟨fun o k a => (h2.1 o k a).trans (h.1 o k a), fun o k a => (h2.2.1 o k a).trans (h.2.1 o k a), fun o k => (h2.2.2.1 o k).trans (h.2.2.1 o k), fun a i c => (h2.2.2.2.1 a i (by unfold sA eA at *; omega)).trans (h.2.2.2.1 a i c), fun a i c => (h2.2.2.2.2 a i (by omega)).trans (h.2.2.2.2 a i c)⟩
theorem fX_T {q s p t nn : Nat} {τ u : zSt} (h : fX q s p t τ u) : fSt q s p nn τ u := ⟨fun o k a => h.1 o k (fun e => a (Or.inl e)), h.2.1, h.2.2.1, fun a i c => h.2.2.2.1 a i (fun e => c (Or.inl (by unfold eA at *; omega))), fun a i _ => h.2.2.2.2 a i⟩
theorem fSt_R {q s p nn : Nat} {τ u : zSt} (hq : q = 9 ∨ q = 10) (h : fSt q s p nn τ u) : fR q τ u :=
  ⟨fun o k a => h.1 o k (by unfold sI eI; unfold okI at a; omega), h.2.1, h.2.2.1, fun a i c => h.2.2.2.1 a i (by unfold sA eA; unfold okA at c; omega), fun a i c => h.2.2.2.2 a i (by omega)⟩
theorem fSt_I {q s p nn o k : Nat} {v : Int32} {τ u : zSt} (h : fSt q s p nn τ u) (ho : sI q o k) : fSt q s p nn τ (zsI u o k v) := by
  refine ⟨fun o' k' hn => ?_, h.2.1, h.2.2.1, h.2.2.2.1, h.2.2.2.2⟩
  rw [zI_I, if_neg (fun e => hn (by rw [e.1, e.2]; exact ho))]
  exact h.1 o' k' hn
theorem fSt_A {q s p nn a i : Nat} {v : Int32} {τ u : zSt} (h : fSt q s p nn τ u) (ho : sA q s p nn a i) : fSt q s p nn τ (zsA u a i v) := by
  refine ⟨h.1, h.2.1, h.2.2.1, fun a' i' hn => ?_, h.2.2.2.2⟩
  rw [zA_A, if_neg (fun e => hn (by rw [e.1, e.2]; exact ho))]
  exact h.2.2.2.1 a' i' hn
theorem fSt_B {q s p nn i : Nat} {v : Int64} {τ u : zSt} (h : fSt q s p nn τ u) (ho : nn ≤ i) : fSt q s p nn τ (zsB u 16 i v) := by
  refine ⟨h.1, h.2.1, h.2.2.1, h.2.2.2.1, fun a' i' hn => ?_⟩
  rw [zB_B, if_neg (fun e => hn ⟨e.1, by rw [e.2]; exact ho⟩)]
  exact h.2.2.2.2 a' i' hn
/-- nothing follows the node before s -/
def nxP (q s : Nat) (z : zSt) : Prop := ∀ m, m + 1 = s → zA z (6 * q - 16) m = -1
theorem nx_ta {q s : Nat} {k a b c : Int32} {σ : zSt} : nxP q (s + 1) (taS σ q s k a b c) := by
  intro m hm
  have : m = s := by omega
  subst this
  unfold taS
  rw [zA_I, zA_A, if_pos ⟨rfl, rfl⟩]
theorem crp_fSt {τ u : zSt} {q : Nat} {fnd : Nat → Int32} {np s p nn lo hi : Nat} {i : Int32} {A : fT} (hq : q = 9 ∨ q = 10) (hf : fSt q s p nn τ u) (hs : hi ≤ s) (h : (crp τ q fnd np A).1 lo hi i) : (crp u q fnd np A).1 lo hi i := (crp_frame (fnd' := fnd) hq A).1 lo hi i (fun a m a1 a2 a3 a4 => hf.2.2.2.1 a m (by unfold sA eA; omega)) h
theorem cdC_fSt {ln : Nat → Nat} {q s p nn p0 : Nat} {τ u : zSt} {l : List Int32} (hq : q = 9 ∨ q = 10) (hf : fSt q s p nn τ u) (hp : p0 + l.length ≤ p) (h : cdC ln q τ p0 l) : cdC ln q u p0 l := by
  intro hl j v hj
  have hjl : j < l.length := by
    by_cases e : j < l.length
    · exact e
    · rw [List.getElem?_eq_none (by omega)] at hj; cases hj
  rw [hf.2.2.2.1 (q + 36) (p0 + j) (by unfold sA eA; omega)]
  exact h hl j v hj
section
variable (ln : Nat → Nat) (q : Nat) (x : Nat → Int32) (n tc : Nat) (G : gE) (np : Nat) (fnd st : Nat → Int32)
def SVc (L : lE) (tk : yTok) (c ns s p pl ms : Nat) (σ : zSt) : Prop := CV ln q x n tc G L np fnd (-1) tk c ns s p 0 σ ∧ zI σ 2 8 = nI pl ∧ zI σ 2 9 = nI ms
/-- what comes of an S -/
def SQ (L : lE) (tk : yTok) (ns s p D pl b : Nat) (τ : zSt) (res : Except Int32 (fT × yTok × Nat × Nat)) (r : Int32) (z : zSt) : Prop :=
  (∀ e, res = .error e → e ≠ 0 ∧ DS ln q e b z ∧ fR q τ z) ∧
  (∀ A tk' c' ms', res = .ok (A, tk', c', ms') → ∃ s', SVc ln q x n tc G np fnd L tk' c' ns s' (p + (gl A).2) pl ms' z ∧ fSt q s p (G.2.2.2.2 + L.2.2) τ z ∧ (crp z q fnd np A).1 s s' r ∧ isNd A ∧ cdC ln q z p ((gn st (nI np) A).2 p) ∧ CB n tc tk' c' ns s' (p + (gl A).2) D ∧ tk.2.1 < tk'.2.1 ∧ ms' ≤ tk'.2.1 ∧ nxP q s' z)
def KSv (R : ySrec) (K : zSt → Option (Int32 × zSt)) : Prop := ∀ ns L pl ms tk c s p D τ, SVc ln q x n tc G np fnd L tk c ns s p pl ms τ → CB n tc tk c ns s p D → p ≤ 4 + 20 * (s + D) → G.2.2.2.2 + L.2.2 ≤ tk.2.1 → pl ≤ tk.2.1 → ms ≤ tk.2.1 → R ns L pl ms tk c ≠ .error 0 → wp (K τ) (SQ ln q x n tc G np fnd st L tk ns s p D pl (SBc ns) τ (R ns L pl ms tk c))
end
def KSD (ln : Nat → Nat) (q : Nat) (K : zSt → Option (Int32 × zSt)) : Prop := ∀ e b σ, DS ln q e b σ → wp (K σ) (fun _ z => DD ln q e b σ z)
section
variable {ln : Nat → Nat} {N M q cc : Nat} {x : Nat → Int32} {n tc : Nat} {G : gE} {L : lE} {np : Nat} {fnd st : Nat → Int32} {tk : yTok} {c ns s p D pl ms : Nat} {σ τ : zSt}
theorem SQ_e {e : Int32} {z : zSt} {r : Int32} {b b1 : Nat} {res : Except Int32 (fT × yTok × Nat × Nat)} (hr : res = .error e) (he : e ≠ 0) (h : DS ln q e b z) (hf : fR q τ z) (hb : b ≤ b1) : SQ ln q x n tc G np fnd st L tk ns s p D pl b1 τ res r z := by
  refine ⟨fun e' h' => ?_, fun A tk' c' ms' h' => by rw [hr] at h'; cases h'⟩
  rw [hr] at h'
  cases h'
  exact ⟨he, DS_le h hb, hf⟩
theorem SB_ge : 230000 ≤ SBc ns ∧ EBc ns + 5000 ≤ SBc ns + 5000 - 5000 + 5000 := by unfold SBc EBc; omega
theorem SB_E (h : ns ≤ 41) : EBc ns + 1000 ≤ SBc ns := by unfold SBc EBc; omega
/-- cells and a node end an S -/
theorem S_fin {tk' : yTok} {c' s2 k ms' b : Nat} {A : fT} {v w : Int} {l : List Int32} {r : Int32} {z : zSt} {res : Except Int32 (fT × yTok × Nat × Nat)} (hL : LN ln q cc) (hn : n ≤ 512) (hV : CV ln q x n tc G L np fnd (-1) tk' c' ns s2 (p + (gl A).2) 0 z) (h8 : zI z 2 8 = nI pl) (h9 : zI z 2 9 = nI ms') (hF : fSt q s p (G.2.2.2.2 + L.2.2) τ z) (hc : (crp z q fnd np A).1 s s2 r) (hcd : cdC ln q z p ((gn st (nI np) A).2 p)) (hB : CB n tc tk' c' ns s2 (p + (gl A).2) (D + 1)) (hP : p ≤ 4 + 20 * (s + D)) (hk : k ≠ 28 ∧ k ≠ 22 ∧ k ≠ 9 ∧ k ≠ 4) (hgl : (gl (fN k v w A fZ fZ)).2 = (gl A).2 + l.length) (hgn : (gn st (nI np) (fN k v w A fZ fZ)).2 p = (gn st (nI np) A).2 p ++ l) (hll : l.length ≤ 3) (hlt : tk.2.1 < tk'.2.1) (hms : ms' ≤ tk'.2.1) (hres : res = .ok (fN k v w A fZ fZ, tk', c', ms')) :
    wp (some (nI s2, taS (ckS ln q z (p + (gl A).2) l) q s2 (cKd k) (cVa fnd np k v) r (-1))) (SQ ln q x n tc G np fnd st L tk ns s p D pl b τ res) := by
  have hq := hL.1
  have hlen := (gn_len st (nI np) A).2 p
  have hcA := (crp_cnt A).1 _ _ _ hc
  have hgA := gl_le A
  obtain ⟨b1, b2, b3, b4, b5, b6⟩ := hB
  have hp1 := b1.1
  have hp2 := b1.2.1
  have hnl := hV.1.1.2.1
  obtain ⟨hV1, hF1⟩ := ck_CV (l := l) hL hV
  have hcd1 := ckS_cd (ln := ln) (q := q) (p := p + (gl A).2) (σ := z) (l := l)
  obtain ⟨hV2, hF2⟩ := ta_CV (k := cKd k) (a := cVa fnd np k v) (b := r) (d := -1) hL hV1
  refine wp_s ⟨fun e h' => (by rw [hres] at h'; cases h'), fun A1 tk1 c1 ms1 h' => ?_⟩
  rw [hres] at h'
  cases h'
  refine ⟨s2 + 1, ⟨?_, ?_, ?_⟩, fSt_trans hF (fX_T (fX_trans hF1 hF2 (Nat.le_refl _) (by omega) (Nat.le_refl _))) (by omega) (by omega) (Nat.le_refl _), ?_, ⟨_, _, _, _, _, _, rfl⟩, ?_, ?_, hlt, hms, nx_ta⟩
  · rw [hgl, ← Nat.add_assoc]; exact hV2
  · rw [taS_I (by omega), ckS_I (by omega)]; exact h8
  · rw [taS_I (by omega), ckS_I (by omega)]; exact h9
  · exact crp_1 hL.1 (by have := hL.2.1; omega) (by omega) hk (crp_fX hL.1 hF1 (Nat.le_refl _) hc)
  · rw [hgn]
    refine cdC_app (cdC_fX hL.1 hF2 (by omega) (cdC_fX hL.1 hF1 (by omega) hcd)) ?_
    rw [hlen]
    exact cdC_fX hL.1 hF2 (Nat.le_refl _) hcd1
  · rw [hgl]
    exact ⟨b1, b2, b3, b4, by omega, by omega⟩
theorem tlD1 {e a d f g : Int32} {b : Nat} (hL : LN ln q cc) (hb : b < 2 ^ 29) (h : DS ln q e b σ) : wp (rbd (zR σ 2 6) 13 14 (fun q9 => obd (fX0_addWith ln N M q9 a d σ) (fun _ σ11 => rbd (zR σ11 2 5) 11 12 (fun q12 => obd (fX9_add ln N M q12 f g (0 : Int32) (-1 : Int32) σ11) (fun r13 σ14 => some (r13, σ14)))))) (fun _ z => DD ln q e (b + 2) σ z) := by
  rw [rbC hL.1 h.2.2.2.1.2.2.2.2]
  refine wpD (addD2 hL hb h) (fun _ u hu => ?_)
  rw [rbT hL.1 hu.2.2.2.1.2.2.2.1]
  exact wp_ret (treeD hL hu)
/-- return E ; -/
theorem retC (hL : LN ln q cc) (hn : n ≤ 512) (hN : 5000 ≤ N) (hM : 43 ≤ M) (hG : G.2.2.2.2 + L.2.2 ≤ tk.2.1) (hgs : gSr G) (hst : ∀ g, g < G.2.2.2.2 → G.2.1 g = 2 → G.2.2.1 g = st g) (h : SVc ln q x n tc G np fnd L tk c ns s p pl ms σ) (hB : CB n tc tk c ns s p D) (hP : p ≤ 4 + 20 * (s + D)) (hms : ms ≤ tk.2.1) (hk : tk.2.2.1 = 46) (R : ySrec) (h0 : yRt x n tc G R ns L pl ms tk c ≠ .error 0) :
    wp (fX6_returning ln N M σ) (SQ ln q x n tc G np fnd st L tk ns s p D pl (SBc ns) σ (yRt x n tc G R ns L pl ms tk c)) := by
  obtain ⟨h, h8, h9⟩ := h
  have hq := hL.1
  have hB0 := hB
  obtain ⟨b1, b2, b3, b4, b5, b6⟩ := hB
  have hp1 := b1.1
  have hp2 := b1.2.1
  have hlt := tk_ne b1 hk (by decide)
  have hnl := h.1.1.2.1
  have hSE := SB_E (ns := ns) (by omega)
  have hEB := EB_ge (ns := ns)
  have hcc : ln (q + 36) ≤ 4096 := by have := hL.2.2.2.2.2.2.2.2.2.2.2; omega
  generalize hres : yRt x n tc G R ns L pl ms tk c = res at h0 ⊢
  unfold yRt at hres
  obtain ⟨M', rfl⟩ : ∃ g, M = g + 1 := ⟨M - 1, by omega⟩
  have hKD := expD (N := N) (M := M' + 1) (d := M') hL hN
  -- told: the rest
  have tail : ∀ e b z r, res = .error e → e ≠ 0 → DS ln q e b z → b + 2 ≤ SBc ns → b < 2 ^ 29 → fR q σ z → wp (rbd (zR z 2 6) 13 14 (fun q9 => obd (fX0_addWith ln N (M' + 1) q9 (33 : Int32) (zI z 3 5) z) (fun _ σ11 => rbd (zR σ11 2 5) 11 12 (fun q12 => obd (fX9_add ln N (M' + 1) q12 (12 : Int32) (0 : Int32) r (-1 : Int32) σ11) (fun r13 σ14 => some (r13, σ14)))))) (SQ ln q x n tc G np fnd st L tk ns s p D pl (SBc ns) σ res) := by
    intro e b z r hr he hd hb hb2 hf
    rw [rbC hL.1 hd.2.2.2.1.2.2.2.2]
    refine wp_obd (wp_mono (addD2 hL hb2 hd) (fun _ u hu => ?_))
    rw [rbT hL.1 hu.1.2.2.2.1.2.2.2.1]
    exact wp_ret (wp_mono (treeD hL hu.1) (fun r y hy => SQ_e hr he hy.1 (fR_trans hf (fR_trans hu.2 hy.2)) hb))
  have dexp : ∀ e z, res = .error e → e ≠ 0 → DS ln q e 11000 z → fR q σ z → wp (obd (fX2_expression ln N (M' + 1) (M' + 1) (56 : Int32) z) (fun r5 σ6 => obd (fX7_come ln N (M' + 1) σ6) (fun _ σ8 => rbd (zR σ8 2 6) 13 14 (fun q9 => obd (fX0_addWith ln N (M' + 1) q9 (33 : Int32) (zI σ8 3 5) σ8) (fun _ σ11 => rbd (zR σ11 2 5) 11 12 (fun q12 => obd (fX9_add ln N (M' + 1) q12 (12 : Int32) (0 : Int32) r5 (-1 : Int32) σ11) (fun r13 σ14 => some (r13, σ14)))))))) (SQ ln q x n tc G np fnd st L tk ns s p D pl (SBc ns) σ res) := by
    intro e z hr he hd hf
    refine wp_obd (wp_mono (hKD _ _ _ _ hd) (fun r u hu => ?_))
    rw [comeD hu.1, obd_s]
    exact tail e _ u r hr he hu.1 (by omega) (by omega) (fR_trans hf hu.2)
  unfold fX6_returning
  rw [h.2.1.2.1]
  refine stTake (D := D) hL hn (by omega) (by omega) (by omega) h hB0 ?_ ?_
  · intro c1 hfo hV1 hF1 hB1
    rw [hfo, xb_k] at hres
    revert hV1 hF1
    generalize zsI σ 3 3 (nI (tc - c1)) = s1
    intro hV1 hF1
    refine stCome (D := D) hL hn hN (by omega) (by omega) hV1 hB1 ?_ ?_
    · intro t1 hcm hV2 hF2 hB2 hpl2
      rw [hcm, xb_k] at hres
      have hF12 := fX_trans hF1 hF2 (Nat.le_refl _) (Nat.le_refl _) (Nat.le_refl _)
      have hb25 := hB2.2.2.2.2.1
      have hq1 := hB2.1.1
      refine wp_obd (wp_mono (expC (M := M' + 1) (st := st) hL hn hN (show G.2.2.2.2 + L.2.2 ≤ n by omega) hgs hst 42 M' (by omega) ns 56 t1 c1 s p 0 (D + 1) _ hV2 ⟨hB2.1, hB2.2.1, b3, b4, by omega, b6⟩ (by omega) (by omega) (Or.inr (Or.inr (Or.inr rfl))) (fun w => h0 (by rw [← hres, w]; rfl))) (fun r z hz => ?_))
      cases hr : yE x n tc G L 42 ns 56 t1 c1 with
      | error e =>
        obtain ⟨he0, hd, hf⟩ := hz.1 e hr
        rw [hr, xb_e] at hres
        rw [comeD hd, obd_s]
        exact tail e _ z r hres.symm he0 hd (by omega) (by unfold EBc; omega) (fR_trans (fX_R hq hF12) hf)
      | ok v =>
        obtain ⟨A, tk', c'⟩ := v
        rw [hr, xb_k] at hres
        obtain ⟨s2, hV3, hF3, hc3, hnd3, hcd3, hB3, hP3, hen, hlt3⟩ := hz.2 A tk' c' hr
        have hcA := (crp_cnt A).1 _ _ _ hc3
        have hlen := (gn_len st (nI np) A).2 p
        refine stCome (D := D + 1) hL hn hN (by omega) (by omega) hV3 hB3 ?_ ?_
        · intro t3 hcm3 hV4 hF4 hB4 hpl4
          rw [show ((A, tk', c') : fT × yTok × Nat).2.1 = tk' from rfl, hcm3, xb_k] at hres
          have hF04 := fX_trans (fX_trans hF12 hF3 (Nat.le_refl _) (Nat.le_refl _) (Nat.le_refl _)) hF4 (by omega) (by omega) (Nat.le_refl _)
          have hc4 := crp_fX hL.1 hF4 (Nat.le_refl _) hc3
          have hcd4 := cdC_fX hL.1 hF4 (by omega) hcd3
          revert hV4 hF04 hc4 hcd4
          generalize cS x n tk'.1 z = s4
          intro hV4 hF04 hc4 hcd4
          have hq3 := hB4.1.1
          have hq4 := hB4.1.2.1
          have hq5 := hB4.2.2.2.2.1
          have hq6 := hB3.1.1
          rw [rbC hL.1 hV4.1.2.1.2.2.2.2, hV4.1.2.2.2.2, addC2 hcc hV4.2.2.2.2.2.2.1 (by have := hB4.2.2.2.2.2; omega), obd_s]
          obtain ⟨hV5, -⟩ := ck_CV (l := [33, nI np]) hL hV4
          rw [rbT hL.1 hV5.1.2.1.2.2.2.1, treeC hL hV5.2.2.2.2.2.1 (by omega), obd_s]
          exact S_fin (k := 24) (v := 0) (w := 0) (l := [33, nI np]) hL hn hV4 ((hF04.1 2 8 (by unfold eI; omega)).trans h8) ((hF04.1 2 9 (by unfold eI; omega)).trans h9) (fX_T hF04) hc4 hcd4 hB4 hP (by omega) (by rw [gl_N]; rfl) (by rw [gn_N]; rfl) (by show 2 ≤ 3; omega) (by omega) (by omega) hres.symm
        · intro e y hcm3 he0 hE
          rw [show ((A, tk', c') : fT × yTok × Nat).2.1 = tk' from rfl, hcm3, xb_e] at hres
          exact tail e _ y r hres.symm he0 hE.1 (by omega) (by omega) (fR_trans (fX_R hq (fX_trans hF12 hF3 (Nat.le_refl _) (Nat.le_refl _) (Nat.le_refl _))) hE.2)
    · intro e z hcm he0 hE
      rw [hcm, xb_e] at hres
      exact dexp e z hres.symm he0 hE.1 (fR_trans (fX_R hq hF1) hE.2)
  · intro e z hfo he0 hE
    rw [hfo, xb_e] at hres
    rw [comeD hE.1, obd_s]
    exact dexp e z hres.symm he0 hE.1 hE.2
end
