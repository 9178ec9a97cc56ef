/-! THE CLASS: a FUNCTION is opened, whole -/
def lNo : lE := (fun _ => 0, fun _ => 0, 0)
def fDc (q s p nn : Nat) (τ u : zSt) : Prop := (∀ o k, ¬ (sI q o k ∨ (o = 3 ∧ k = 5) ∨ (o = 2 ∧ k = 7) ∨ (o = q ∧ (k = 2 ∨ k = 3))) → zI u o k = zI τ o k) ∧ (∀ o k, o ≠ 1 → zL u o k = zL τ o k) ∧ (∀ o k, zR u o k = zR τ o k) ∧ (∀ a i, ¬ sA q s p nn a i → ¬ (a = q + 36 ∧ i = 1) → zA u a i = zA τ a i) ∧ (∀ a i, ¬ (a = 16 ∧ nn ≤ i) → zB u a i = zB τ a i)
theorem fDc_refl {q s p nn : Nat} {τ : zSt} : fDc q s p nn τ τ := ⟨fun _ _ _ => rfl, fun _ _ _ => rfl, fun _ _ => rfl, fun _ _ _ _ => rfl, fun _ _ _ => rfl⟩
theorem fDc_trans {q s p nn s' p' nn' : Nat} {τ u v : zSt} (h : fDc q s p nn τ u) (h2 : fDc q s' p' nn' u v) (hs : s ≤ s') (hp : p ≤ p') (hn : nn ≤ nn') : fDc q s p nn τ v :=
  ⟨fun o k a => (h2.1 o k a).trans (h.1 o k a), fun o k a => (h2.2.1 o k a).trans (h.2.1 o k a), fun o k => (h2.2.2.1 o k).trans (h.2.2.1 o k), fun a i c d => (h2.2.2.2.1 a i (by unfold sA eA at *; omega) d).trans (h.2.2.2.1 a i c d), fun a i c => (h2.2.2.2.2 a i (by omega)).trans (h.2.2.2.2 a i c)⟩
theorem fDc_S {q s p nn : Nat} {τ u : zSt} (h : fSt q s p nn τ u) : fDc q s p nn τ u := ⟨fun o k a => h.1 o k (fun e => a (Or.inl e)), h.2.1, h.2.2.1, fun a i c _ => h.2.2.2.1 a i c, h.2.2.2.2⟩
theorem fDc_P {q s p nn nn' : Nat} {τ u : zSt} (h : fPm q nn τ u) (hn : nn' ≤ nn) : fDc q s p nn' τ u := ⟨fun o k a => h.1 o k (by unfold sI at a; omega), h.2.1, h.2.2.1, fun a i c _ => h.2.2.2.1 a i (by unfold sA at c; omega), fun a i c => h.2.2.2.2 a i (by omega)⟩
theorem fDc_R {q s p nn : Nat} {τ u : zSt} (hq : q = 9 ∨ q = 10) (h : fDc q s p nn τ u) : fR q τ u :=
  ⟨fun o k a => h.1 o k (by unfold sI eI; unfold okI at a; omega), h.2.1, h.2.2.1, fun a i c => h.2.2.2.1 a i (by unfold sA eA; unfold okA at c; omega) (by unfold okA at c; omega), fun a i c => h.2.2.2.2 a i (by omega)⟩
def yPg (x : Nat → Int32) (n : Nat) (tk : yTok) : Except Int32 (lE × yTok) := xb (cm x n tk) (fun t3 => yPe x n (if t3.2.2.1 = 50 then .ok (lNo, t3) else yPars x n (n + 2) lNo t3))
def yOf (x : Nat → Int32) (n tc p0 : Nat) (tk : yTok) (c : Nat) : Except Int32 (lE × yTok × Nat) := xb (fo tc c p0) (fun c1 => xb (yPg x n tk) (fun v => xb (need 51 v.2) (fun _ => .ok (v.1, v.2, c1))))
section
variable (ln : Nat → Nat) (q : Nat) (x : Nat → Int32) (n tc : Nat) (G : gE) (fnd : Nat → Int32)
def OFq (w : Int64) (tk : yTok) (s p D : Nat) (τ : zSt) (res : Except Int32 (lE × yTok × Nat)) (z : zSt) : Prop :=
  (∀ e, res = .error e → e ≠ 0 ∧ DS ln q e 11002 z ∧ fR q τ z) ∧
  (∀ L' t5 c1, res = .ok (L', t5, c1) → SVc ln q x n tc (gAdd G w 2 (nI p) (nI L'.2.2)) L'.2.2 fnd (lPlace L') t5 c1 1 (s + 1) (p + 2) 0 0 z ∧ fDc q s p G.2.2.2.2 τ z ∧ CB n tc t5 c1 1 (s + 1) (p + 2) D ∧ tk.2.1 < t5.2.1 ∧ L'.2.2 ≤ 8 ∧ G.2.2.2.2 + 1 + L'.2.2 ≤ t5.2.1 ∧ t5.2.2.1 = 51 ∧ cdC ln q z p [37, 0] ∧ zA z (6 * q - 21) s = 19 ∧ zA z (6 * q - 20) s = nI L'.2.2 ∧ zI z 2 7 = nI G.2.2.2.2 ∧ zI z q 2 = zI τ q 2 ∧ zI z q 3 = (if w = yMain ∧ L'.2.2 = 0 then nI s else zI τ q 3) ∧ (1 < ln (q + 36) → 2 ≤ p → zA z (q + 36) 1 = if w = yMain ∧ L'.2.2 = 0 then nI p else zA τ (q + 36) 1))
end
section
variable {ln : Nat → Nat} {N M q cc : Nat} {x : Nat → Int32} {n tc : Nat} {G : gE} {L L0 : lE} {np : Nat} {fnd st : Nat → Int32} {mu : Int32} {tk : yTok} {c ns s p t D pl ms : Nat} {σ τ u : zSt}
theorem OFq_e {e : Int32} {z : zSt} {w : Int64} {b : Nat} {res : Except Int32 (lE × yTok × Nat)} (hr : res = .error e) (he : e ≠ 0) (h : DS ln q e b z) (hf : fR q τ z) (hb : b ≤ 11002) : OFq ln q x n tc G fnd w tk s p D τ res z := by
  refine ⟨fun e' h' => ?_, fun A tk' c' h' => by rw [hr] at h'; cases h'⟩
  rw [hr] at h'
  cases h'
  exact ⟨he, DS_le h hb, hf⟩
theorem openC2 {w : Int64} {p0 : Nat} (hL : LN ln q cc) (hn : n ≤ 512) (hN : 5000 ≤ N) (hG : G.2.2.2.2 + 1 ≤ tk.2.1) (hp0 : p0 ≤ 512) (h : CV ln q x n tc G lNo np fnd (-1) tk c 0 s p 0 σ) (hB : CB n tc tk c 0 s p (D + 1)) (hP : p + 2 ≤ 10500) (hk : tk.2.2.1 = 49) (hfn : fnd G.2.2.2.2 = nI s) (h0 : yOf x n tc p0 tk c ≠ .error 0) :
    wp (fX6_openFunction ln N M w (nI p0) σ) (fun _ z => OFq ln q x n tc G fnd w tk s p D σ (yOf x n tc p0 tk c) z) := by
  have hq := hL.1
  have h15 := hL.2.1
  have hB2 := hB
  obtain ⟨b1, b2, b3, b4, b5, b6⟩ := hB
  have hp1 := b1.1
  have hp2 := b1.2.1
  have hlt := tk_ne b1 hk (by decide)
  have hnl := h.1.1.2.1
  have hcc : ln (q + 36) ≤ 4096 := by have := hL.2.2.2.2.2.2.2.2.2.2.2; omega
  generalize hres : yOf x n tc p0 tk c = res at h0 ⊢
  unfold yOf at hres
  rw [tlO_eq]
  refine stTake (D := D + 1) hL hn (show G.2.2.2.2 + 0 ≤ n by omega) (by omega) hp0 h hB2 ?_ ?_
  · intro c1 hfo hV1 hF1 hB1
    rw [hfo, xb_k] at hres
    revert hV1 hF1
    generalize zsI σ 3 3 (nI (tc - c1)) = s1
    intro hV1 hF1
    unfold tlO1
    rw [rbC hL.1 hV1.1.2.1.2.2.2.2, bnd_e, hV1.2.2.2.2.2.2.1, bnd_e, show zI s1 4 5 = nI G.2.2.2.2 from hV1.1.2.2.1.1]
    have hV2 := CV_2 (k := 7) (v := nI G.2.2.2.2) hL hV1
    have hF2 : fDc q s p G.2.2.2.2 σ (zsI s1 2 7 (nI G.2.2.2.2)) := fDc_trans (fDc_S (fX_T hF1)) (⟨fun o k a => by rw [zI_I, if_neg (by omega)], fun _ _ _ => rfl, fun _ _ => rfl, fun _ _ _ _ => rfl, fun _ _ _ => rfl⟩ : fDc q s p G.2.2.2.2 s1 _) (Nat.le_refl _) (Nat.le_refl _) (Nat.le_refl _)
    have h27 : zI (zsI s1 2 7 (nI G.2.2.2.2)) 2 7 = nI G.2.2.2.2 := by rw [zI_I, if_pos ⟨rfl, rfl⟩]
    have hq32 : ∀ k, zI (zsI s1 2 7 (nI G.2.2.2.2)) q k = zI σ q k := fun k => by rw [zI_I, if_neg (by omega)]; exact hF1.1 q k (by unfold eI; omega)
    have hc12 : ∀ i, zA (zsI s1 2 7 (nI G.2.2.2.2)) (q + 36) i = zA σ (q + 36) i ∨ p ≤ i := fun i => by
      by_cases e : p ≤ i
      · exact Or.inr e
      · exact Or.inl (by rw [zA_I]; exact hF1.2.2.2.1 _ _ (by unfold eA; omega))
    revert hV2 hF2 h27 hq32 hc12
    generalize zsI s1 2 7 (nI G.2.2.2.2) = s2
    intro hV2 hF2 h27 hq32 hc12
    rw [rbT hL.1 hV2.1.2.1.2.2.2.1, treeC hL hV2.2.2.2.2.2.1 (by omega), obd_s]
    obtain ⟨hV3, hF3⟩ := ta_CV (k := 19) (a := 0) (b := -1) (d := 0) hL hV2
    have hk3 : zA (taS s2 q s 19 0 (-1) 0) (6 * q - 21) s = 19 := by
      unfold taS
      rw [zA_I, zA_A, if_neg (by omega), zA_A, if_neg (by omega), zA_A, if_neg (by omega), zA_A, if_neg (by omega), zA_A, if_neg (by omega), zA_A, if_pos ⟨rfl, rfl⟩]
    have h273 : zI (taS s2 q s 19 0 (-1) 0) 2 7 = nI G.2.2.2.2 := (taS_I (by omega)).trans h27
    have hq33 : ∀ k, zI (taS s2 q s 19 0 (-1) 0) q k = zI σ q k := fun k => (taS_I (by omega)).trans (hq32 k)
    have hF03 := fDc_trans hF2 (fDc_S (fX_T (nn := G.2.2.2.2) hF3)) (Nat.le_refl _) (Nat.le_refl _) (Nat.le_refl _)
    have hc13 : ∀ i, zA (taS s2 q s 19 0 (-1) 0) (q + 36) i = zA σ (q + 36) i ∨ p ≤ i := fun i => by
      rcases hc12 i with e | e
      · by_cases e2 : p ≤ i
        · exact Or.inr e2
        · exact Or.inl ((hF3.2.2.2.1 _ _ (by unfold eA; omega)).trans e)
      · exact Or.inr e
    revert hV3 hk3 h273 hq33 hF03 hc13
    generalize taS s2 q s 19 0 (-1) 0 = s3
    intro hV3 hk3 h273 hq33 hF03 hc13
    rw [nAddC (k := G.2.2.2.2) hL (by omega) hV3.1.2.2.1.1, obd_s]
    have hset : fX4_setNode ln N M (nI G.2.2.2.2) (nI s) (naS s3 G.2.2.2.2 w 2 (nI p) 0) = some ((), zsA (naS s3 G.2.2.2.2 w 2 (nI p) 0) 20 G.2.2.2.2 (nI s)) := by
      unfold fX4_setNode
      rw [show zI (naS s3 G.2.2.2.2 w 2 (nI p) 0) 4 5 = nI (G.2.2.2.2 + 1) by unfold naS; rw [zI_I, if_pos ⟨rfl, rfl⟩], if_neg (nI_pos (by omega)), if_neg (fun w => by rw [nI_le' (by omega) (by omega)] at w; omega), nI_clamp (by omega), if_neg (ixN (by have := hL.2.2.2.2.2.2.1; omega) (by omega)), bnd_e]
    rw [naS_I (by omega), h273, hset, obd_s]
    have hN4 : NV (gAdd G w 2 (nI p) 0) lNo fnd (zsA (naS s3 G.2.2.2.2 w 2 (nI p) 0) 20 G.2.2.2.2 (nI s)) := by
      obtain ⟨n1, n2, n3, n4⟩ := naS_Bk (σ := s3) (k := G.2.2.2.2) (w := w) (a := 2) (b := nI p) (d := 0)
      refine ga_NV (L := lNo) rfl rfl hV3.1.2.2.1 (by show zI (naS s3 G.2.2.2.2 w 2 (nI p) 0) 4 5 = _; unfold naS; rw [zI_I, if_pos ⟨rfl, rfl⟩]) (fun r i r1 r2 r3 => by rw [zA_A, if_neg (by omega)]; exact naS_A (by omega)) (fun i hi => naS_B (by omega)) n1 (by rw [zA_A, if_neg (by omega)]; exact n2) (by rw [zA_A, if_neg (by omega)]; exact n3) (by rw [zA_A, if_neg (by omega)]; exact n4) (fun _ => by rw [zA_A, if_pos ⟨rfl, rfl⟩]; exact hfn.symm)
    have hA4 : ∀ a i, ¬ (17 ≤ a ∧ a ≤ 20 ∧ i = G.2.2.2.2) → zA (zsA (naS s3 G.2.2.2.2 w 2 (nI p) 0) 20 G.2.2.2.2 (nI s)) a i = zA s3 a i := fun a i hn => by rw [zA_A, if_neg (by omega)]; exact naS_A hn
    have hI4 : ∀ o k, ¬ (o = 4 ∧ k = 5) → zI (zsA (naS s3 G.2.2.2.2 w 2 (nI p) 0) 20 G.2.2.2.2 (nI s)) o k = zI s3 o k := fun o k hn => naS_I hn
    have hV4 := CV_nm (u := zsA (naS s3 G.2.2.2.2 w 2 (nI p) 0) 20 G.2.2.2.2 (nI s)) hL hV3 (fun o k o1 _ _ => hI4 o k (by omega)) (fun _ _ => rfl) (fun _ _ => rfl) (fun j => hA4 15 j (by omega)) hN4
    have hF4 : fDc q s p G.2.2.2.2 s3 (zsA (naS s3 G.2.2.2.2 w 2 (nI p) 0) 20 G.2.2.2.2 (nI s)) := fDc_S (fSt_A (naS_f s p) (Or.inr (by omega)))
    have hF04 := fDc_trans hF03 hF4 (Nat.le_refl _) (Nat.le_refl _) (Nat.le_refl _)
    have hk4 := (hA4 (6 * q - 21) s (by omega)).trans hk3
    have h274 := (hI4 2 7 (by omega)).trans h273
    have hq34 : ∀ k, zI (zsA (naS s3 G.2.2.2.2 w 2 (nI p) 0) 20 G.2.2.2.2 (nI s)) q k = zI σ q k := fun k => (hI4 q k (by omega)).trans (hq33 k)
    have hc14 : ∀ i, zA (zsA (naS s3 G.2.2.2.2 w 2 (nI p) 0) 20 G.2.2.2.2 (nI s)) (q + 36) i = zA σ (q + 36) i ∨ p ≤ i := fun i => by rw [hA4 _ _ (by omega)]; exact hc13 i
    revert hV4 hF04 hk4 h274 hq34 hc14
    generalize zsA (naS s3 G.2.2.2.2 w 2 (nI p) 0) 20 G.2.2.2.2 (nI s) = s4
    intro hV4 hF04 hk4 h274 hq34 hc14
    rw [h274, nI_1]
    have hG4 : (gAdd G w 2 (nI p) 0).2.2.2.2 = G.2.2.2.2 + 1 := rfl
    refine wp_obd (wp_mono (parsC (N := N) (M := M) (G := gAdd G w 2 (nI p) 0) (D := D) (res := yPg x n tk) hL hn hN (by omega) (by omega) hV4 ⟨b1, hB1.2.1, b3, by omega, by omega, b6⟩ hk rfl (fun w => h0 (by rw [← hres, w]; rfl))) (fun r13 z hz => ?_))
    cases hy : yPg x n tk with
    | error e =>
      obtain ⟨he0, hd, hf⟩ := hz.1 e hy
      rw [hy, xb_e] at hres
      exact wp_mono (tlO2D hL (by omega) hd) (fun _ y hy => OFq_e hres.symm he0 hy.1 (fR_trans (fDc_R hq hF04) (fR_trans hf hy.2)) (by omega))
    | ok v =>
      obtain ⟨L', t5⟩ := v
      rw [hy, xb_k] at hres
      obtain ⟨rfl, hV5, hF5, hB5, hlt5, h85, hG5⟩ := hz.2 L' t5 hy
      sorry
  · intro e z hfo he0 hE
    rw [hfo, xb_e] at hres
    exact wp_mono (tlO1D hL hN (by omega) hE.1) (fun _ y hy => OFq_e hres.symm he0 hy.1 (fR_trans hE.2 hy.2) (by omega))
end
