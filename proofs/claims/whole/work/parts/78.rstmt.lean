/-! THE REFERENCE'S READER: S whole -/
def bbS (τ : zSt) (o nd bf l pl : Nat) : zSt := zsI (zsI (zsA (zsA (zsA (zsA (zsA (zsA (zsA (ndS τ 20 nd) 26 o (nI bf)) 27 o (nI l)) 28 o (nI pl)) 24 o (-1)) 25 o 1) 22 o 0) 23 o (nI nd)) 0 46 (nI (o + 1))) 0 33 (nI l)
theorem bb_eq {N o nd bf l pl : Nat} {τ : zSt} (h38 : zI τ 0 38 = nI nd) (h46 : zI τ 0 46 = nI o) (h33 : zI τ 0 33 = nI bf) (h30 : zI τ 0 30 = nI l) (h34 : zI τ 0 34 = nI pl) (hnd : nd < 4200) (ho : o < 100) : fX12_beginBlock N τ = obd (fX12_opens N 123 (bbS τ o nd bf l pl)) (fun _ u => some ((), u)) := by
  have g46 : zI (ndS τ 20 nd) 0 46 = nI o := (ndS_I (by omega)).trans h46
  have g33 : zI (ndS τ 20 nd) 0 33 = nI bf := (ndS_I (by omega)).trans h33
  have g30 : zI (ndS τ 20 nd) 0 30 = nI l := (ndS_I (by omega)).trans h30
  have g34 : zI (ndS τ 20 nd) 0 34 = nI pl := (ndS_I (by omega)).trans h34
  unfold fX12_beginBlock fX12_enter bbS
  rw [nodeR h38 hnd, obd_s]
  simp (disch := omega) only [zI_A, g46, g33, g30, g34, nIneg, nI_clamp, leF, or_false, false_or, or_self, if_false, reduceIte, nI_1, nI_pred, bnd_e, obd_s]
  have e30 : zI (zsI (zsA (zsA (zsA (zsA (zsA (zsA (zsA (ndS τ 20 nd) 26 o (nI bf)) 27 o (nI l)) 28 o (nI pl)) 24 o (-1)) 25 o 1) 22 o 0) 23 o (nI nd)) 0 46 (nI (o + 1))) 0 30 = nI l := by
    rw [zI_I, if_neg (by omega)]; simp only [zI_A]; exact g30
  rw [e30]
theorem bbS_A {τ : zSt} {o nd bf l pl a i : Nat} (h : ¬ (22 ≤ a ∧ a ≤ 28 ∧ i = o)) (h2 : ¬ (15 ≤ a ∧ a ≤ 21 ∧ i = nd)) : zA (bbS τ o nd bf l pl) a i = zA τ a i := by
  unfold bbS
  rw [zA_I, zA_I, zA_A, if_neg (by omega), zA_A, if_neg (by omega), zA_A, if_neg (by omega), zA_A, if_neg (by omega), zA_A, if_neg (by omega), zA_A, if_neg (by omega), zA_A, if_neg (by omega), ndS_A (by omega)]
theorem bbS_I {τ : zSt} {o nd bf l pl j : Nat} (h : j ≠ 33 ∧ j ≠ 38 ∧ j ≠ 46) : zI (bbS τ o nd bf l pl) 0 j = zI τ 0 j := by
  unfold bbS
  rw [zI_I, if_neg (by omega), zI_I, if_neg (by omega)]
  simp only [zI_A]
  exact ndS_I (by omega)
theorem bbS_B {τ : zSt} {o nd bf l pl a i : Nat} : zB (bbS τ o nd bf l pl) a i = zB τ a i := by
  unfold bbS
  simp only [zI_I, zI_L, zI_R, zI_A, zI_B, zL_I, zL_L, zL_R, zL_A, zL_B, zA_I, zA_L, zA_R, zA_A, zA_B, zB_I, zB_L, zB_R, zB_A, zB_B, reduceIte, Nat.reduceEqDiff, Nat.reduceEqDiff, false_and, and_false, true_and, and_true, ne_eq, not_false_eq_true, not_true_eq_false, ndS_B]
theorem bbS_nd {τ : zSt} {o nd bf l pl a : Nat} (ha : 15 ≤ a ∧ a ≤ 21) : zA (bbS τ o nd bf l pl) a nd = zA (ndS τ 20 nd) a nd := by
  unfold bbS
  rw [zA_I, zA_I, zA_A, if_neg (by omega), zA_A, if_neg (by omega), zA_A, if_neg (by omega), zA_A, if_neg (by omega), zA_A, if_neg (by omega), zA_A, if_neg (by omega), zA_A, if_neg (by omega)]
theorem bbS_SB {x : Nat → Int32} {n tc : Nat} {G : gE} {L : lE} {tk : yTok} {c ns nd bf pl fn ms o : Nat} {τ : zSt} (h : SB x n tc G L tk c ns nd bf pl fn ms o τ) : SB x n tc G L tk c ns (nd + 1) L.2.2 pl fn ms (o + 1) (bbS τ o nd bf L.2.2 pl) := by
  obtain ⟨⟨⟨⟨r1, r1b, r1c⟩, r2, r3, r4, r5, r6⟩, t1, s1, s2, s3, s4⟩, h33, h34, h35, h12, h46⟩ := h
  refine ⟨⟨⟨⟨?_, r1b, fun j hj => ?_⟩, ?_, ?_, fun g hg => ?_, ?_, fun j hj => ?_⟩, ?_, ?_, ?_, ?_, ?_⟩, ?_, ?_, ?_, ?_, ?_⟩
  · rw [bbS_I (by omega)]; exact r1
  · rw [bbS_A (by omega) (by omega)]; exact r1c j hj
  · rw [bbS_I (by omega)]; exact r2
  · rw [bbS_I (by omega)]; exact r3
  · rw [bbS_B, bbS_A (by omega) (by omega), bbS_A (by omega) (by omega), bbS_A (by omega) (by omega)]; exact r4 g hg
  · rw [bbS_I (by omega)]; exact r5
  · rw [bbS_B, bbS_A (by omega) (by omega)]; exact r6 j hj
  · unfold rT
    rw [bbS_I (by omega), bbS_I (by omega), bbS_I (by omega)]
    have : zL (bbS τ o nd bf L.2.2 pl) 0 20 = zL τ 0 20 := by unfold bbS; simp only [zI_I, zI_L, zI_R, zI_A, zI_B, zL_I, zL_L, zL_R, zL_A, zL_B, zA_I, zA_L, zA_R, zA_A, zA_B, zB_I, zB_L, zB_R, zB_A, zB_B, reduceIte, Nat.reduceEqDiff, Nat.reduceEqDiff, false_and, and_false, true_and, and_true, ne_eq, not_false_eq_true, not_true_eq_false, ndS_L]
    rw [this]
    exact t1
  · rw [bbS_I (by omega)]; exact s1
  · rw [bbS_I (by omega)]; exact s2
  · rw [bbS_I (by omega)]; exact s3
  · unfold bbS
    rw [zI_I, if_neg (by omega), zI_I, if_neg (by omega)]
    simp only [zI_A]
    exact ndS_38
  · unfold bbS; rw [zI_I, if_pos ⟨rfl, rfl⟩]
  · rw [bbS_I (by omega)]; exact h34
  · rw [bbS_I (by omega)]; exact h35
  · rw [bbS_A (by omega) (by omega)]; exact h12
  · unfold bbS; rw [zI_I, if_neg (by omega), zI_I, if_pos ⟨rfl, rfl⟩]
theorem bbS_BT {τ : zSt} {o nd bf l pl : Nat} : BT o nd 16 nd bf l pl true (bbS τ o nd bf l pl) := by
  unfold BT bbS
  simp only [zI_I, zI_L, zI_R, zI_A, zI_B, zL_I, zL_L, zL_R, zL_A, zL_B, zA_I, zA_L, zA_R, zA_A, zA_B, zB_I, zB_L, zB_R, zB_A, zB_B, reduceIte, Nat.reduceEqDiff, Nat.reduceEqDiff, false_and, and_false, true_and, and_true, ne_eq, not_false_eq_true, not_true_eq_false]
  exact ⟨rfl, Or.inl trivial⟩
theorem bbS_fB {τ : zSt} {o nd bf l pl ln fn : Nat} : fB nd o ln fn τ (bbS τ o nd bf l pl) :=
  ⟨fun j hj => bbS_I (by omega), fun a i q1 q2 q3 q4 q5 => bbS_A (by omega) (by omega), fun a i _ => bbS_B⟩
theorem SB_37 {x : Nat → Int32} {n tc : Nat} {G : gE} {L : lE} {tk : yTok} {c ns nd ns' bf pl fn ms o : Nat} {τ : zSt} (h : SB x n tc G L tk c ns nd bf pl fn ms o τ) : SB x n tc G L tk c ns' nd bf pl fn ms o (zsI τ 0 37 (nI ns')) := SB_fE (lo := 0) h (SV_37 h.1) (fE_I fE_refl (by omega))
/-- a BLOCK, its opening bracket being there -/
theorem blockR {x : Nat → Int32} {n tc : Nat} {G : gE} {L : lE} {N fn : Nat} {R : ySrec} {tk : yTok} {c ns nd bf pl ms o m k : Nat} {x1 : Int32} {τ : zSt} {Q : Int32 → zSt → Prop} (hn : n ≤ 512) (hN : 5000 ≤ N) (hG : G.2.2.2.2 ≤ 1400) (hfn : fn < 1400) (hR : SRp x n tc G N fn R) (hsW : sW R) (hV : SB x n tc G L tk c ns nd bf pl fn ms o τ) (hB : BD n tc tk c ns nd 0) (hW : WS τ o) (ho : o ≤ ns) (hns : ns ≠ 40) (hk : tk.2.2.1 = 51) (hL : L.2.2 ≤ tk.2.1) (hpl : pl ≤ ms) (hms : ms ≤ tk.2.1) (hm : 2 * n + 60 + k ≤ m + 2 * tk.2.1) (h0 : yBlock x n tc G R ns L pl ms tk c ≠ .error 0)
    (hok : ∀ r tk' c' ms' nd' m' u, yBlock x n tc G R ns L pl ms tk c = .ok (r, tk', c', ms') → SB x n tc G L tk' c' ns nd' bf pl fn ms' o u → BD n tc tk' c' ns nd' 0 → fB nd o L.2.2 fn τ u → nd + 1 ≤ nd' → rep u (fN 20 0 0 r fZ fZ) nd nd' (nI nd) → zA u 21 nd = -1 → tk.2.1 < tk'.2.1 → ms ≤ ms' → ms' ≤ tk'.2.1 → 2 * n + 62 + k ≤ m' + 2 * tk'.2.1 → wp (fX12_block_b18 N m' x1 (nI nd) u) Q)
    (her : ∀ e r u, yBlock x n tc G R ns L pl ms tk c = .error e → e ≠ 0 → EB x n e τ u → Q r u) : wp (obd (fX12_beginBlock N τ) (fun _ u => fX12_block_b18 N m x1 (-1) u)) Q := by
  have hBl := BD_le hB hn
  obtain ⟨b1, b2, b3, b4, b5, b6⟩ := hB
  have hlt := tk_ne b1 hk (by decide)
  have hpn : tk.2.1 ≤ n := by have := b1.1; have := b1.2.1; omega
  rw [bb_eq hV.1.2.2.2.2.2 hV.2.2.2.2.2 hV.2.1 hV.1.1.2.2.2.2.1 hV.2.2.1 (by omega) (by omega)]
  have hV1 := bbS_SB hV
  have hT1 : BT o nd 16 nd bf L.2.2 pl true (bbS τ o nd bf L.2.2 pl) := bbS_BT
  have hf1 : fB nd o L.2.2 fn τ (bbS τ o nd bf L.2.2 pl) := bbS_fB
  have hz1 : ∀ a, 15 ≤ a → a ≤ 21 → zA (bbS τ o nd bf L.2.2 pl) a nd = zA (ndS τ 20 nd) a nd := fun a p1 p2 => bbS_nd ⟨p1, p2⟩
  revert hV1 hT1 hf1 hz1
  generalize bbS τ o nd bf L.2.2 pl = s1
  intro hV1 hT1 hf1 hz1
  have hK := rT_K hV1.1.2.1
  have hne : ne ns tk.2.1 = .ok () := by unfold ne; rw [if_neg hns]
  rw [opensT hne ((sB51 hV1.1.2.2.1 hK).mpr hk) hV1.1.2.2.1 hV1.1.2.2.2.2.1 b4 hV1.1.1.1 hV1.1.2.1.1 b1.2.1 (by omega), obd_s, obd_s]
  have hV2 : SB x n tc G L tk c (ns + 1) (nd + 1) L.2.2 pl fn ms (o + 1) (zsI s1 0 37 (nI (ns + 1))) := SB_37 hV1
  have hT2 : BT o nd 16 nd bf L.2.2 pl true (zsI s1 0 37 (nI (ns + 1))) := BT_cong hT1 (fun a _ _ => zA_I ..)
  have hf2 : fB nd o L.2.2 fn τ (zsI s1 0 37 (nI (ns + 1))) := fB_I hf1 (by omega)
  have hz2 : ∀ a, 15 ≤ a → a ≤ 21 → zA (zsI s1 0 37 (nI (ns + 1))) a nd = zA (ndS τ 20 nd) a nd := fun a p1 p2 => (zA_I ..).trans (hz1 a p1 p2)
  revert hV2 hT2 hf2 hz2
  generalize zsI s1 0 37 (nI (ns + 1)) = s2
  intro hV2 hT2 hf2 hz2
  unfold yBlock at h0 hok her
  have hW2 : WS s2 o := fB_WS hf2 hW (Nat.le_refl _)
  cases hcm : cm x n tk with
  | error e =>
    rw [hcm] at her
    have he0 := cm_ne hn hcm b1.2.1
    obtain ⟨m, rfl⟩ : ∃ g, m = g + 2 := ⟨m - 2, by omega⟩
    refine pendN (x := x) (n := n) (o := o) (PD_nx hcm hV2.1.2.2.1) he0 (rD_le (rD_nx (SV_rD hV2.1 b1.2.1 (by omega)) b1.2.1) (by omega)) ((nxS_I (by omega)).trans hV2.2.2.2.2.2) (by omega) (nxS_A.trans hT2.1) (Or.inr (nxS_A.trans hT2.2.2.1)) (fun r z hz => her e r z rfl he0 (EB_tr hz (nxS_P (fB_P hf2))))
  | ok t1 =>
    rw [hcm, xb_k] at h0 hok her
    have ht1 := sat_get (cm_ok (x := x) (n := n) (t := tk) (by omega) b1.2.1) hcm
    have hh1 := ht1.2
    have hf3 : fB nd o L.2.2 fn τ (nxS x n tk.1 s2) := fB_nx hf2
    refine itemsR (L0 := L) hn hN hG hfn hR hsW (ns0 := ns) (o := o) (bn := nd) (bf0 := bf) (pl0 := pl) (n + 2) true L pl ms t1 c (nd + 1) 16 nd m k (nxS x n tk.1 s2) (SB_fE (lo := 0) hV2 (SV_n hcm hV2.1) (nxS_E fE_refl)) ⟨ht1.1, b2, b3, by omega, by omega, by omega⟩ (WS_cong hW2 (fun a i _ _ _ => nxS_A)) (BT_cong hT2 (fun a _ _ => nxS_A)) ?_ (by omega) (by omega) ⟨Nat.le_refl _, fun _ _ => ⟨rfl, rfl⟩⟩ ho (by omega) hpl (by omega) (by omega) h0 ?_ ?_
    · rw [nxS_A, hz2 16 (by omega) (by omega)]; exact nd16
    · intro r tk' c' ms' i nd' m' u hres hVu hBu hfu hndu hs hr hplu hm1 hm2 hmu
      have hzu : ∀ a, 15 ≤ a → a ≤ 21 → a ≠ 16 → zA u a nd = zA (ndS τ 20 nd) a nd := fun a p1 p2 p3 => by
        rw [hfu.2.1 a nd (by omega) (by omega) (by omega) (by omega) (by omega) (by omega), nxS_A, hz2 a p1 p2]
      refine hok r tk' c' ms' nd' m' u hres hVu hBu ⟨fun j hj => (hfu.1 j hj).trans (hf3.1 j hj), fun a j p1 p2 p3 p4 p5 => (hfu.2.1 a j (by omega) p2 p3 p4 p5 (by omega)).trans (hf3.2.1 a j p1 p2 p3 p4 p5), fun a j p => (hfu.2.2 a j p).trans (hf3.2.2 a j p)⟩ hndu ?_ ?_ (by omega) hm1 hm2 hmu
      · refine rep_1 rfl (by decide) (by omega) ?_ ?_ ?_ (by omega) ?_ ?_ ?_
        · rw [hzu 15 (by omega) (by omega) (by omega)]; exact nd15
        · rw [hzu 19 (by omega) (by omega) (by omega)]; exact nd19
        · rw [hzu 20 (by omega) (by omega) (by omega)]; exact nd20
        · rw [hs]; exact rep_frame _ _ _ _ (fun j hj => ⟨hj, fun a _ _ => rfl⟩) hr
        · rw [hzu 17 (by omega) (by omega) (by omega)]; exact nd17
        · rw [hzu 18 (by omega) (by omega) (by omega)]; exact nd18
      · rw [hzu 21 (by omega) (by omega) (by omega)]; exact nd21
    · intro e r u hres he0 heb
      exact her e r u hres he0 (EB_tr heb (fB_P hf3))
/-- an S without others in it, in its place -/
theorem leafS {x : Nat → Int32} {n tc : Nat} {G : gE} {L : lE} {N fn : Nat} {tk : yTok} {c ns nd bf pl ms o m k : Nat} {x1 : Int32} {τ : zSt} {Q : Int32 → zSt → Prop} {res : Except Int32 (fT × yTok × Nat × Nat)} (hn : n ≤ 512) (hV : SB x n tc G L tk c ns nd bf pl fn ms o τ) (hB : BD n tc tk c ns nd 0) (hW : WS τ o) (ho : o ≤ ns) (hms : ms ≤ tk.2.1) (hm : 2 * n + 60 + k ≤ m + 2 * tk.2.1) (h : wp (fX12_statement N τ) (LQ x n tc G L tk ns nd ms τ res)) (hne : res ≠ .error 0)
    (hok : ∀ t tk' c' ms' i nd' m' u, res = .ok (t, tk', c', ms') → SB x n tc G L tk' c' ns nd' bf pl fn ms' o u → BD n tc tk' c' ns nd' 0 → fB nd o L.2.2 fn τ u → nd ≤ nd' → rep u t nd nd' (nI i) → zA u 21 i = -1 → i < 4200 → rng nd nd' i → tk.2.1 < tk'.2.1 → ms ≤ ms' → ms' ≤ tk'.2.1 → 2 * n + 62 + k ≤ m' + 2 * tk'.2.1 → wp (fX12_block_b18 N m' x1 (nI i) u) Q)
    (her : ∀ e r u, res = .error e → e ≠ 0 → EB x n e τ u → Q r u) : wp (obd (fX12_statement N τ) (fun r u => fX12_block_b18 N m x1 r u)) Q := by
  have hBl := BD_le hB hn
  have hpn : tk.2.1 ≤ n := by have := hB.1.1; have := hB.1.2.1; omega
  have hns := hB.2.2.2.1
  refine wp_obd (wp_mono h (fun r u hq => ?_))
  cases hres : res with
  | error e =>
    obtain ⟨he0, hc⟩ := hq.1 e hres
    rcases hc with hfx | ⟨p1, p2, p3, i, hi, rfl⟩
    · obtain ⟨m, rfl⟩ : ∃ g, m = g + 1 := ⟨m - 1, by omega⟩
      exact bkE (by rw [hfx.1]; exact he0) (her e _ u hres he0 (Or.inl hfx))
    · exact pendB (x := x) (n := n) he0 o m i u p1 p2 ((p3.1 46 (by omega)).trans hV.2.2.2.2.2) (by omega) (WS_cong hW (fun a j q1 q2 q3 => p3.2.1 a j (by omega) (by omega))) hi (by omega) (fun r z hz => her e r z hres he0 (EB_tr hz (fE_P p3)))
  | ok v =>
    obtain ⟨t, tk', c', ms'⟩ := v
    obtain ⟨rfl, i, nd', rfl, hVu, hBu, hEu, hndu, hrep, h21, hi, hri, hpl⟩ := hq.2 t tk' c' ms' hres
    exact hok t tk' c' ms' i nd' m u hres (SB_fE hV hVu hEu) hBu (fE_B hEu) hndu hrep h21 hi hri hpl (Nat.le_refl _) (by omega) (by omega)
