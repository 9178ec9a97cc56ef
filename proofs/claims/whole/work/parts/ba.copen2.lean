/-! THE CLASS: a FUNCTION is opened, whole -/
def lNo : lE := (fun _ => 0, fun _ => 0, 0)
def fDc (q s p nn : Nat) (τ u : zSt) : Prop := (∀ o k, ¬ (sI q o k ∨ (o = 3 ∧ k = 5) ∨ (o = 2 ∧ k = 7) ∨ (o = q ∧ (k = 2 ∨ k = 3))) → zI u o k = zI τ o k) ∧ (∀ o k, o ≠ 1 → zL u o k = zL τ o k) ∧ (∀ o k, zR u o k = zR τ o k) ∧ (∀ a i, ¬ sA q s p nn a i → ¬ (a = q + 36 ∧ i = 1) → zA u a i = zA τ a i) ∧ (∀ a i, ¬ (a = 16 ∧ nn ≤ i) → zB u a i = zB τ a i)
theorem fDc_refl {q s p nn : Nat} {τ : zSt} : fDc q s p nn τ τ := ⟨fun _ _ _ => rfl, fun _ _ _ => rfl, fun _ _ => rfl, fun _ _ _ _ => rfl, fun _ _ _ => rfl⟩
theorem fDc_trans {q s p nn s' p' nn' : Nat} {τ u v : zSt} (h : fDc q s p nn τ u) (h2 : fDc q s' p' nn' u v) (hs : s ≤ s') (hp : p ≤ p') (hn : nn ≤ nn') : fDc q s p nn τ v :=
  ⟨fun o k a => (h2.1 o k a).trans (h.1 o k a), fun o k a => (h2.2.1 o k a).trans (h.2.1 o k a), fun o k => (h2.2.2.1 o k).trans (h.2.2.1 o k), fun a i c d => (h2.2.2.2.1 a i (by unfold sA eA at *; omega) d).trans (h.2.2.2.1 a i c d), fun a i c => (h2.2.2.2.2 a i (by omega)).trans (h.2.2.2.2 a i c)⟩
theorem fDc_S {q s p nn : Nat} {τ u : zSt} (h : fSt q s p nn τ u) : fDc q s p nn τ u := ⟨fun o k a => h.1 o k (fun e => a (Or.inl e)), h.2.1, h.2.2.1, fun a i c _ => h.2.2.2.1 a i c, h.2.2.2.2⟩
theorem fDc_P {q s p nn nn' : Nat} {τ u : zSt} (h : fPm q nn τ u) (hn : nn' ≤ nn) : fDc q s p nn' τ u := ⟨fun o k a => h.1 o k (by unfold sI eI at a; unfold eI; omega), h.2.1, h.2.2.1, fun a i c _ => h.2.2.2.1 a i (by unfold sA eA at c; omega), fun a i c => h.2.2.2.2 a i (by omega)⟩
theorem fDc_R {q s p nn : Nat} {τ u : zSt} (hq : q = 9 ∨ q = 10) (h : fDc q s p nn τ u) : fR q τ u :=
  ⟨fun o k a => h.1 o k (by unfold sI eI; unfold okI at a; omega), h.2.1, h.2.2.1, fun a i c => h.2.2.2.1 a i (by unfold sA eA; unfold okA at c; omega) (by unfold okA at c; omega), fun a i c => h.2.2.2.2 a i (by omega)⟩
def yPg (x : Nat → Int32) (n : Nat) (tk : yTok) : Except Int32 (lE × yTok) := xb (cm x n tk) (fun t3 => yPe x n (if t3.2.2.1 = 50 then .ok (lNo, t3) else yPars x n (n + 2) lNo t3))
def yOf (x : Nat → Int32) (n tc p0 : Nat) (tk : yTok) (c : Nat) : Except Int32 (lE × yTok × Nat) := xb (fo tc c p0) (fun c1 => xb (yPg x n tk) (fun v => xb (need 51 v.2) (fun _ => .ok (v.1, v.2, c1))))
section
variable (ln : Nat → Nat) (q : Nat) (x : Nat → Int32) (n tc : Nat) (G : gE) (fnd : Nat → Int32)
def OFq (w : Int64) (tk : yTok) (s p D : Nat) (τ : zSt) (res : Except Int32 (lE × yTok × Nat)) (z : zSt) : Prop :=
  (∀ e, res = .error e → e ≠ 0 ∧ DS ln q e 11002 z ∧ fR q τ z) ∧
  (∀ L' t5 c1, res = .ok (L', t5, c1) → SVc ln q x n tc (gAdd G w 2 (nI p) (nI L'.2.2)) L'.2.2 fnd (lPlace L') t5 c1 1 (s + 1) (p + 2) 0 0 z ∧ fDc q s p G.2.2.2.2 τ z ∧ CB n tc t5 c1 1 (s + 1) (p + 2) D ∧ tk.2.1 < t5.2.1 ∧ L'.2.2 ≤ 8 ∧ G.2.2.2.2 + 1 + L'.2.2 ≤ t5.2.1 ∧ t5.2.2.1 = 51 ∧ cdC ln q z p [37, 0] ∧ zA z (6 * q - 21) s = 19 ∧ zA z (6 * q - 20) s = nI L'.2.2 ∧ zI z 2 7 = nI G.2.2.2.2 ∧ zI z q 2 = zI τ q 2 ∧ zI z q 3 = (if w = yMain ∧ L'.2.2 = 0 then nI s else zI τ q 3) ∧ (1 < ln (q + 36) → 2 ≤ p → zA z (q + 36) 1 = if w = yMain ∧ L'.2.2 = 0 then nI p else zA τ (q + 36) 1))
end
section
variable {ln : Nat → Nat} {N M q cc : Nat} {x : Nat → Int32} {n tc : Nat} {G : gE} {L L0 : lE} {np : Nat} {fnd st : Nat → Int32} {mu : Int32} {tk : yTok} {c ns s p t D pl ms : Nat} {σ τ u : zSt}
theorem OFq_e {e : Int32} {z : zSt} {w : Int64} {b : Nat} {res : Except Int32 (lE × yTok × Nat)} (hr : res = .error e) (he : e ≠ 0) (h : DS ln q e b z) (hf : fR q τ z) (hb : b ≤ 11002) : OFq ln q x n tc G fnd w tk s p D τ res z := by
  refine ⟨fun e' h' => ?_, fun A tk' c' h' => by rw [hr] at h'; cases h'⟩
  rw [hr] at h'
  cases h'
  exact ⟨he, DS_le h hb, hf⟩
theorem openT {w : Int64} {L' : lE} {t5 : yTok} {c1 : Nat} {z : zSt} {res : Except Int32 (lE × yTok × Nat)} (hL : LN ln q cc) (hn : n ≤ 512) (hV : CV ln q x n tc (gAdd G w 2 (nI p) 0) (lPlace L') L'.2.2 fnd (-1) t5 c1 0 (s + 1) p 0 z) (hB : CB n tc t5 c1 0 (s + 1) p D) (hlt : tk.2.1 < t5.2.1) (h8 : L'.2.2 ≤ 8) (hG : G.2.2.2.2 + 1 + L'.2.2 ≤ t5.2.1) (hP : p + 2 ≤ 10500) (h27 : zI z 2 7 = nI G.2.2.2.2) (hk : zA z (6 * q - 21) s = 19) (hF : fDc q s p G.2.2.2.2 σ z) (hq3 : ∀ k, 2 ≤ k → k ≤ 3 → zI z q k = zI σ q k) (hc1 : ∀ i, zA z (q + 36) i = zA σ (q + 36) i ∨ p ≤ i)
    (hres : res = xb (need 51 t5) (fun _ => .ok (L', t5, c1))) : wp (tlO2 ln N M w (nI p) (nI s) (nI L'.2.2) z) (fun _ y => OFq ln q x n tc G fnd w tk s p D σ res y) := by
  have hq := hL.1
  have h15 := hL.2.1
  have hB2 := hB
  obtain ⟨b1, b2, b3, b4, b5, b6⟩ := hB
  have hp1 := b1.1
  have hp2 := b1.2.1
  have hnl := hV.1.1.2.1
  have hcc : ln (q + 36) ≤ 4096 := by have := hL.2.2.2.2.2.2.2.2.2.2.2; omega
  obtain ⟨u, u1, u2, u3, u4, u5, u6, u7, u8, u9, u10⟩ := tlO2S (N := N) (M := M) (G := G) (s := s) (p := p) (w := w) (k := G.2.2.2.2 + 1 + L'.2.2) (m := L'.2.2) (σ := z) hL (by omega) (by omega) (by omega) hV.1.2.1 hV.1.2.2.1.1 hV.2.2.2.2.2.1 h27 h8
  rw [u1]
  have hN6 : NV (gAdd G w 2 (nI p) (nI L'.2.2)) (lPlace L') fnd u := gc_NV hV.1.2.2.1 (u2 _ _ (by omega)) (fun i => u5 16 i) (fun r i r1 r2 r3 => u6 r i r3 (by omega) (by omega)) u7
  have hV6 := CV_nm (u := u) hL hV (fun o k o1 o2 o3 => u2 o k (by omega)) u3 u4 (fun j => u6 15 j (by omega) (by omega) (by omega)) hN6
  have hF6 : fDc q s p G.2.2.2.2 σ u := by
    refine fDc_trans hF (⟨fun o k a => u2 o k (by omega), fun o k _ => u3 o k, u4, fun a i a1 a2 => u6 a i (by unfold sA eA at a1; omega) (by unfold sA eA at a1; omega) a2, fun a i _ => u5 a i⟩ : fDc q s p G.2.2.2.2 z u) (Nat.le_refl _) (Nat.le_refl _) (Nat.le_refl _)
  have hk6 : zA u (6 * q - 21) s = 19 := (u6 _ _ (by omega) (by omega) (by omega)).trans hk
  have h276 : zI u 2 7 = nI G.2.2.2.2 := (u2 _ _ (by omega)).trans h27
  have hq26 : zI u q 2 = zI σ q 2 := (u2 _ _ (by omega)).trans (hq3 2 (by omega) (by omega))
  have hq36 : zI u q 3 = (if w = yMain ∧ L'.2.2 = 0 then nI s else zI σ q 3) := by rw [u9, hq3 3 (by omega) (by omega)]
  have hc16 : 1 < ln (q + 36) → 2 ≤ p → zA u (q + 36) 1 = if w = yMain ∧ L'.2.2 = 0 then nI p else zA σ (q + 36) 1 := fun e1 e2 => by
    rw [u10 e1]
    rcases hc1 1 with e | e
    · rw [e]
    · omega
  unfold fX6_openFunction_b135
  rw [bnd_e, bnd_e]
  have hV7 := CV_2 (k := 9) (v := 0) hL (CV_2 (k := 8) (v := 0) hL hV6)
  have hF7 : fSt q s p G.2.2.2.2 u (zsI (zsI u 2 8 0) 2 9 0) := fSt_I (fSt_I fSt_refl (by unfold sI; omega)) (by unfold sI; omega)
  have h87 : zI (zsI (zsI u 2 8 0) 2 9 0) 2 8 = nI 0 := by rw [zI_I, if_neg (by omega), zI_I, if_pos ⟨rfl, rfl⟩]; rfl
  have h97 : zI (zsI (zsI u 2 8 0) 2 9 0) 2 9 = nI 0 := by rw [zI_I, if_pos ⟨rfl, rfl⟩]; rfl
  have hI7 : ∀ o k, ¬ (o = 2 ∧ (k = 8 ∨ k = 9)) → zI (zsI (zsI u 2 8 0) 2 9 0) o k = zI u o k := fun o k hn => by rw [zI_I, if_neg (by omega), zI_I, if_neg (by omega)]
  have hA7 : ∀ a i, zA (zsI (zsI u 2 8 0) 2 9 0) a i = zA u a i := fun a i => by rw [zA_I, zA_I]
  revert hV7 hF7 h87 h97 hI7 hA7
  generalize zsI (zsI u 2 8 0) 2 9 0 = u7'
  intro hV7 hF7 h87 h97 hI7 hA7
  rw [rbC hL.1 hV7.1.2.1.2.2.2.2, addC2 hcc hV7.2.2.2.2.2.2.1 (by omega), obd_s]
  obtain ⟨hV8, hF8⟩ := ck_CV (l := [37, 0]) hL hV7
  have hcd8 := ckS_cd (ln := ln) (q := q) (p := p) (σ := u7') (l := [37, 0])
  have hI8 : ∀ o k, ¬ eI q o k → zI (ckS ln q u7' p [37, 0]) o k = zI u7' o k := hF8.1
  have hA8 : ∀ a i, ¬ (a = q + 36 ∧ p ≤ i) → zA (ckS ln q u7' p [37, 0]) a i = zA u7' a i := fun a i hn => (fX_ck (l := [37, 0]) (ln := ln) (q := q) (s := i + 1) (p := p) (t := i + 1) (τ := u7') (u := u7') (p' := p) fX_refl (Nat.le_refl _)).2.2.2.1 a i (by unfold eA; omega)
  revert hV8 hF8 hcd8 hI8 hA8
  generalize ckS ln q u7' p [37, 0] = u8'
  intro hV8 hF8 hcd8 hI8 hA8
  have hF08 := fDc_trans hF6 (fDc_S (fSt_trans hF7 (fX_T (nn := G.2.2.2.2) hF8) (Nat.le_succ _) (Nat.le_refl _) (Nat.le_refl _))) (Nat.le_refl _) (Nat.le_refl _) (Nat.le_refl _)
  have hGn : (gAdd G w 2 (nI p) (nI L'.2.2)).2.2.2.2 + (lPlace L').2.2 ≤ n := by show G.2.2.2.2 + 1 + L'.2.2 ≤ n; omega
  have hB8 : CB n tc t5 c1 0 (s + 1) (p + 2) D := ⟨b1, b2, b3, b4, b5, by omega⟩
  refine stNeed (D := D) (k := 51) hL hn hGn (by omega) hV8 hB8 ?_ ?_
  · intro y hnd
    rw [hnd, xb_k] at hres
    have hk51 := need_kk hnd
    refine stEnter (D := D) hL hn hGn (by omega) hV8 hB8 ?_ ?_
    · intro y hen hV9 hF9 hB9
      refine wp_s ⟨fun e h' => (by rw [hres] at h'; cases h'), fun L1 t1 c1' h' => ?_⟩
      rw [hres] at h'
      cases h'
      have hI9 : ∀ o k, ¬ eI q o k → zI (zsI u8' 3 4 (nI (0 + 1))) o k = zI u8' o k := hF9.1
      have hA9 : ∀ a i, zA (zsI u8' 3 4 (nI (0 + 1))) a i = zA u8' a i := fun a i => zA_I ..
      refine ⟨⟨hV9, ?_, ?_⟩, fDc_trans hF08 (fDc_S (fX_T (nn := G.2.2.2.2) hF9)) (Nat.le_succ _) (by omega) (Nat.le_refl _), hB9, hlt, h8, hG, hk51, ?_, ?_, ?_, ?_, ?_, ?_, fun e1 e2 => ?_⟩
      · rw [hI9 _ _ (by unfold eI; omega), hI8 _ _ (by unfold eI; omega)]; exact h87
      · rw [hI9 _ _ (by unfold eI; omega), hI8 _ _ (by unfold eI; omega)]; exact h97
      · intro hl j v hj
        rw [hA9]
        exact hcd8 hl j v hj
      · rw [hA9, hA8 _ _ (by omega), hA7]; exact hk6
      · rw [hA9, hA8 _ _ (by omega), hA7]; exact u8
      · rw [hI9 _ _ (by unfold eI; omega), hI8 _ _ (by unfold eI; omega), hI7 _ _ (by omega)]; exact h276
      · rw [hI9 _ _ (by unfold eI; omega), hI8 _ _ (by unfold eI; omega), hI7 _ _ (by omega)]; exact hq26
      · rw [hI9 _ _ (by unfold eI; omega), hI8 _ _ (by unfold eI; omega), hI7 _ _ (by omega)]; exact hq36
      · rw [hA9, hA8 _ _ (by omega), hA7]; exact hc16 e1 e2
    · intro e z hen he0 hE
      exfalso
      unfold ne at hen
      rw [if_neg (by omega)] at hen
      cases hen
  · intro e z hnd he0 hE
    rw [hnd, xb_e] at hres
    exact wp_mono (wpD (enterD hL.1 hE.1) (fun _ y hy => wpS hy (Nat.le_refl _))) (fun _ y hy => OFq_e hres he0 hy.1 (fR_trans (fDc_R hq hF08) (fR_trans hE.2 hy.2)) (by omega))
theorem openC2 {w : Int64} {p0 : Nat} (hL : LN ln q cc) (hn : n ≤ 512) (hN : 5000 ≤ N) (hG : G.2.2.2.2 + 1 ≤ tk.2.1) (hp0 : p0 ≤ 512) (h : CV ln q x n tc G lNo np fnd (-1) tk c 0 s p 0 σ) (hB : CB n tc tk c 0 s p (D + 1)) (hP : p + 2 ≤ 10500) (hk : tk.2.2.1 = 49) (hfn : fnd G.2.2.2.2 = nI s) (h0 : yOf x n tc p0 tk c ≠ .error 0) :
    wp (fX6_openFunction ln N M w (nI p0) σ) (fun _ z => OFq ln q x n tc G fnd w tk s p D σ (yOf x n tc p0 tk c) z) := by
  have hq := hL.1
  have h15 := hL.2.1
  have hB2 := hB
  obtain ⟨b1, b2, b3, b4, b5, b6⟩ := hB
  have hp1 := b1.1
  have hp2 := b1.2.1
  have hlt := tk_ne b1 hk (by decide)
  have hnl := h.1.1.2.1
  have hcc : ln (q + 36) ≤ 4096 := by have := hL.2.2.2.2.2.2.2.2.2.2.2; omega
  generalize hres : yOf x n tc p0 tk c = res at h0 ⊢
  unfold yOf at hres
  rw [tlO_eq]
  refine stTake (D := D + 1) hL hn (show G.2.2.2.2 + 0 ≤ n by omega) (by omega) hp0 h hB2 ?_ ?_
  · intro c1 hfo hV1 hF1 hB1
    rw [hfo, xb_k] at hres
    revert hV1 hF1
    generalize zsI σ 3 3 (nI (tc - c1)) = s1
    intro hV1 hF1
    unfold tlO1
    rw [rbC hL.1 hV1.1.2.1.2.2.2.2, bnd_e, hV1.2.2.2.2.2.2.1, bnd_e, show zI s1 4 5 = nI G.2.2.2.2 from hV1.1.2.2.1.1]
    have hV2 := CV_2 (k := 7) (v := nI G.2.2.2.2) hL hV1
    have hF2a : fDc q s p G.2.2.2.2 s1 (zsI s1 2 7 (nI G.2.2.2.2)) := ⟨fun o k a => by rw [zI_I, if_neg (by omega)], fun _ _ _ => rfl, fun _ _ => rfl, fun _ _ _ _ => rfl, fun _ _ _ => rfl⟩
    have hF2 := fDc_trans (fDc_S (fX_T (nn := G.2.2.2.2) hF1)) hF2a (Nat.le_refl _) (Nat.le_refl _) (Nat.le_refl _)
    have h27 : zI (zsI s1 2 7 (nI G.2.2.2.2)) 2 7 = nI G.2.2.2.2 := by rw [zI_I, if_pos ⟨rfl, rfl⟩]
    have hq32 : ∀ k, zI (zsI s1 2 7 (nI G.2.2.2.2)) q k = zI σ q k := fun k => by rw [zI_I, if_neg (by omega)]; exact hF1.1 q k (by unfold eI; omega)
    have hc12 : ∀ i, zA (zsI s1 2 7 (nI G.2.2.2.2)) (q + 36) i = zA σ (q + 36) i ∨ p ≤ i := fun i => by
      by_cases e : p ≤ i
      · exact Or.inr e
      · exact Or.inl (by rw [zA_I]; exact hF1.2.2.2.1 _ _ (by unfold eA; omega))
    revert hV2 hF2 h27 hq32 hc12
    generalize zsI s1 2 7 (nI G.2.2.2.2) = s2
    intro hV2 hF2 h27 hq32 hc12
    rw [rbT hL.1 hV2.1.2.1.2.2.2.1, treeC hL hV2.2.2.2.2.2.1 (by omega), obd_s]
    obtain ⟨hV3, hF3⟩ := ta_CV (k := 19) (a := 0) (b := -1) (d := 0) hL hV2
    have hk3 : zA (taS s2 q s 19 0 (-1) 0) (6 * q - 21) s = 19 := by
      unfold taS
      rw [zA_I, zA_A, if_neg (by omega), zA_A, if_neg (by omega), zA_A, if_neg (by omega), zA_A, if_neg (by omega), zA_A, if_neg (by omega), zA_A, if_pos ⟨rfl, rfl⟩]
    have h273 : zI (taS s2 q s 19 0 (-1) 0) 2 7 = nI G.2.2.2.2 := (taS_I (by omega)).trans h27
    have hq33 : ∀ k, zI (taS s2 q s 19 0 (-1) 0) q k = zI σ q k := fun k => (taS_I (by omega)).trans (hq32 k)
    have hF03 := fDc_trans hF2 (fDc_S (fX_T (nn := G.2.2.2.2) hF3)) (Nat.le_refl _) (Nat.le_refl _) (Nat.le_refl _)
    have hc13 : ∀ i, zA (taS s2 q s 19 0 (-1) 0) (q + 36) i = zA σ (q + 36) i ∨ p ≤ i := fun i => by
      rcases hc12 i with e | e
      · by_cases e2 : p ≤ i
        · exact Or.inr e2
        · exact Or.inl ((hF3.2.2.2.1 _ _ (by unfold eA; omega)).trans e)
      · exact Or.inr e
    revert hV3 hk3 h273 hq33 hF03 hc13
    generalize taS s2 q s 19 0 (-1) 0 = s3
    intro hV3 hk3 h273 hq33 hF03 hc13
    rw [nAddC (k := G.2.2.2.2) hL (by omega) hV3.1.2.2.1.1, obd_s]
    have e20 := hL.2.2.2.2.2.2.1
    obtain ⟨n1, n2, n3, n4⟩ := naS_Bk (σ := s3) (k := G.2.2.2.2) (w := w) (a := 2) (b := nI p) (d := 0)
    have h45 : zI (naS s3 G.2.2.2.2 w 2 (nI p) 0) 4 5 = nI (G.2.2.2.2 + 1) := by unfold naS; rw [zI_I, if_pos ⟨rfl, rfl⟩]
    have nI3 : ∀ o k, ¬ (o = 4 ∧ k = 5) → zI (naS s3 G.2.2.2.2 w 2 (nI p) 0) o k = zI s3 o k := fun o k hn => naS_I hn
    have nA3 : ∀ a i, ¬ (17 ≤ a ∧ a ≤ 20 ∧ i = G.2.2.2.2) → zA (naS s3 G.2.2.2.2 w 2 (nI p) 0) a i = zA s3 a i := fun a i hn => naS_A hn
    have nB3 : ∀ i, i ≠ G.2.2.2.2 → zB (naS s3 G.2.2.2.2 w 2 (nI p) 0) 16 i = zB s3 16 i := fun i hi => naS_B hi
    have nL3 : ∀ o k, zL (naS s3 G.2.2.2.2 w 2 (nI p) 0) o k = zL s3 o k := fun _ _ => rfl
    have nR3 : ∀ o k, zR (naS s3 G.2.2.2.2 w 2 (nI p) 0) o k = zR s3 o k := fun _ _ => rfl
    have nF3 := naS_f (q := q) (σ := s3) (k := G.2.2.2.2) (w := w) (a := 2) (b := nI p) (d := 0) s p
    revert n1 n2 n3 n4 h45 nI3 nA3 nB3 nL3 nR3 nF3
    generalize naS s3 G.2.2.2.2 w 2 (nI p) 0 = v3
    intro n1 n2 n3 n4 h45 nI3 nA3 nB3 nL3 nR3 nF3
    have hset : fX4_setNode ln N M (nI G.2.2.2.2) (nI s) v3 = some ((), zsA v3 20 G.2.2.2.2 (nI s)) := by
      unfold fX4_setNode
      rw [h45, if_neg (nI_pos (by omega)), if_neg (fun w => by rw [nI_le' (by omega) (by omega)] at w; omega), nI_clamp (by omega), if_neg (ixN (by omega) (by omega)), bnd_e]
    rw [nI3 2 7 (by omega), h273, hset, obd_s]
    have hA4 : ∀ a i, ¬ (17 ≤ a ∧ a ≤ 20 ∧ i = G.2.2.2.2) → zA (zsA v3 20 G.2.2.2.2 (nI s)) a i = zA s3 a i := fun a i hn => by rw [zA_A, if_neg (by omega)]; exact nA3 a i hn
    have hI4 : ∀ o k, ¬ (o = 4 ∧ k = 5) → zI (zsA v3 20 G.2.2.2.2 (nI s)) o k = zI s3 o k := fun o k hn => by rw [zI_A]; exact nI3 o k hn
    have hN4 : NV (gAdd G w 2 (nI p) 0) lNo fnd (zsA v3 20 G.2.2.2.2 (nI s)) := by
      refine ga_NV (L := lNo) (σ := s3) rfl rfl hV3.1.2.2.1 (by rw [zI_A]; exact h45) (fun r i r1 r2 r3 => hA4 r i (by omega)) (fun i hi => by rw [zB_A]; exact nB3 i (by omega)) (by rw [zB_A]; exact n1) (by rw [zA_A, if_neg (by omega)]; exact n2) (by rw [zA_A, if_neg (by omega)]; exact n3) (by rw [zA_A, if_neg (by omega)]; exact n4) (fun _ => by rw [zA_A, if_pos ⟨rfl, rfl⟩]; exact hfn.symm)
    have hV4 := CV_nm (u := zsA v3 20 G.2.2.2.2 (nI s)) hL hV3 (fun o k o1 _ _ => hI4 o k (by omega)) nL3 nR3 (fun j => hA4 15 j (by omega)) hN4
    have hF4 : fDc q s p G.2.2.2.2 s3 (zsA v3 20 G.2.2.2.2 (nI s)) := fDc_S (fSt_A nF3 (Or.inr (by omega)))
    have hF04 := fDc_trans hF03 hF4 (Nat.le_refl _) (Nat.le_refl _) (Nat.le_refl _)
    have hk4 := (hA4 (6 * q - 21) s (by omega)).trans hk3
    have h274 := (hI4 2 7 (by omega)).trans h273
    have hq34 : ∀ k, zI (zsA v3 20 G.2.2.2.2 (nI s)) q k = zI σ q k := fun k => (hI4 q k (by omega)).trans (hq33 k)
    have hc14 : ∀ i, zA (zsA v3 20 G.2.2.2.2 (nI s)) (q + 36) i = zA σ (q + 36) i ∨ p ≤ i := fun i => by rw [hA4 _ _ (by omega)]; exact hc13 i
    revert hV4 hF04 hk4 h274 hq34 hc14
    generalize zsA v3 20 G.2.2.2.2 (nI s) = s4
    intro hV4 hF04 hk4 h274 hq34 hc14
    rw [h274, nI_1]
    have hG4 : (gAdd G w 2 (nI p) 0).2.2.2.2 = G.2.2.2.2 + 1 := rfl
    refine wp_obd (wp_mono (parsC (N := N) (M := M) (G := gAdd G w 2 (nI p) 0) (D := D) (res := yPg x n tk) hL hn hN (by omega) (by omega) hV4 ⟨b1, hB1.2.1, b3, by omega, by omega, b6⟩ hk rfl (fun w => h0 (by rw [← hres, w]; rfl))) (fun r13 z hz => ?_))
    cases hy : yPg x n tk with
    | error e =>
      obtain ⟨he0, hd, hf⟩ := hz.1 e hy
      rw [hy, xb_e] at hres
      exact wp_mono (tlO2D hL (by omega) hd) (fun _ y hy => OFq_e hres.symm he0 hy.1 (fR_trans (fDc_R hq hF04) (fR_trans hf hy.2)) (by omega))
    | ok v =>
      obtain ⟨L', t5⟩ := v
      rw [hy, xb_k] at hres
      obtain ⟨rfl, hV5, hF5, hB5, hlt5, h85, hG5⟩ := hz.2 L' t5 hy
      exact openT hL hn hV5 hB5 (by omega) h85 (by rw [hG4] at hG5; exact hG5) hP ((hF5.1 2 7 (by unfold eI; omega)).trans h274) ((hF5.2.2.2.1 _ _ (by omega)).trans hk4) (fDc_trans hF04 (fDc_P hF5 (by rw [hG4]; omega)) (Nat.le_refl _) (Nat.le_refl _) (Nat.le_refl _)) (fun k _ _ => (hF5.1 q k (by unfold eI; omega)).trans (hq34 k)) (fun i => by rw [hF5.2.2.2.1 _ _ (by omega)]; exact hc14 i) hres.symm
  · intro e z hfo he0 hE
    rw [hfo, xb_e] at hres
    exact wp_mono (tlO1D hL hN (by omega) hE.1) (fun _ y hy => OFq_e hres.symm he0 hy.1 (fR_trans hE.2 hy.2) (by omega))
end
