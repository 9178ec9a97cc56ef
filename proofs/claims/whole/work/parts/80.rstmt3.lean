/-! THE REFERENCE'S READER: S whole: if, while, BLOCK -/
theorem brNone {x : Nat → Int32} {n N m o : Nat} {x1 e kd : Int32} {u : zSt} {Q : Int32 → zSt → Prop} (h : PD e u) (he : e ≠ 0) (hr : rD x n 1200 u) (h46 : zI u 0 46 = nI (o + 1)) (ho : o < 100) (h22 : zA u 22 o = kd) (hk : kd ≠ 0) (hQ : ∀ r z, EB x n e u z → Q r z) : wp (fX12_block_b18 N (m + 2) x1 (-1) u) Q := by
  rw [bkX h.1 h46 ho, if_neg (by rw [h22]; exact hk)]
  unfold fX12_inBranch
  rw [if_neg (by decide), stP h, obd_s, obd_s]
  have hf : FXb x n 1200 e u (zsI u 0 21 e) := FX_mk hr
  exact bkE (by rw [hf.1]; exact he) (hQ _ _ (Or.inl ⟨hf.1, hf.2.1, hf.2.2⟩))
theorem brGo {N m o : Nat} {x1 kd : Int32} {u : zSt} (h21 : zI u 0 21 = 0) (h46 : zI u 0 46 = nI (o + 1)) (ho : o < 100) (h22 : zA u 22 o = kd) (hk : kd ≠ 0) : fX12_block_b18 N (m + 1) x1 (-1) u = obd (fX12_statement N u) (fun r u => fX12_block_b18 N m x1 r u) := by
  rw [bkX h21 h46 ho, if_neg (by rw [h22]; exact hk)]
  unfold fX12_inBranch
  rw [if_neg (by decide), obd_obd]
theorem SB_46 {x : Nat → Int32} {n tc : Nat} {G : gE} {L : lE} {tk : yTok} {c ns nd bf pl fn ms o o' : Nat} {τ : zSt} (h : SB x n tc G L tk c ns nd bf pl fn ms o τ) : SB x n tc G L tk c ns nd bf pl fn ms o' (zsI τ 0 46 (nI o')) := by
  obtain ⟨⟨r, t1, s1, s2, s3, s4⟩, h33, h34, h35, h12, h46⟩ := h
  refine ⟨⟨⟨⟨?_, r.1.2.1, r.1.2.2⟩, ?_, ?_, r.2.2.2.1, ?_, r.2.2.2.2.2⟩, ?_, ?_, ?_, ?_, ?_⟩, ?_, ?_, ?_, h12, ?_⟩
  · rw [zI_I, if_neg (by omega)]; exact r.1.1
  · rw [zI_I, if_neg (by omega)]; exact r.2.1
  · rw [zI_I, if_neg (by omega)]; exact r.2.2.1
  · rw [zI_I, if_neg (by omega)]; exact r.2.2.2.2.1
  · unfold rT; simp only [zI_I, zI_L, zI_R, zI_A, zI_B, zL_I, zL_L, zL_R, zL_A, zL_B, zA_I, zA_L, zA_R, zA_A, zA_B, zB_I, zB_L, zB_R, zB_A, zB_B, reduceIte, Nat.reduceEqDiff, Nat.reduceEqDiff, false_and, and_false, true_and, and_true, ne_eq, not_false_eq_true, not_true_eq_false]; exact t1
  · rw [zI_I, if_neg (by omega)]; exact s1
  · rw [zI_I, if_neg (by omega)]; exact s2
  · rw [zI_I, if_neg (by omega)]; exact s3
  · rw [zI_I, if_neg (by omega)]; exact s4
  · rw [zI_I, if_neg (by omega)]; exact h33
  · rw [zI_I, if_neg (by omega)]; exact h34
  · rw [zI_I, if_neg (by omega)]; exact h35
  · rw [zI_I, if_pos ⟨rfl, rfl⟩]
theorem brPend {x : Nat → Int32} {n N m o nd d ln fn : Nat} {x1 e kd : Int32} {τ z : zSt} {Q : Int32 → zSt → Prop} (h : PD e z) (he : e ≠ 0) (hr : rD x n 1100 z) (hE : fE nd 0 τ z) (ho : o < 100) (hk : kd ≠ 0) (hm : 2 ≤ m) (hQ : ∀ r y, EB x n e τ y → Q r y) : wp (fX12_block_b18 N m x1 (-1) (enS z o d kd)) Q := by
  obtain ⟨m, rfl⟩ : ∃ g, m = g + 2 := ⟨m - 2, by omega⟩
  have hpd : PD e (enS z o d kd) := by
    unfold PD
    rw [enS_I (by omega), enS_I (by omega), enS_I (by omega)]
    exact h
  have hP : fP τ (enS z o d kd) := fB_P (enS_fB (ln := ln) (fn := fn) (fE_B hE))
  obtain ⟨r1, ⟨p, r2, r3⟩, dd, r4, r5⟩ := hr
  refine brNone (x := x) (n := n) hpd he ⟨srcR_fP r1 (fB_P (lo := 0) (o := o) (ln := 0) (fn := 0) (enS_fB fB_refl)), ⟨p, r2, (enS_I (by omega)).trans r3⟩, dd, by omega, (enS_I (by omega)).trans r5⟩ (by unfold enS; rw [zI_I, if_pos ⟨rfl, rfl⟩]) ho enS_22.1 hk (fun r y hy => hQ r y (EB_tr hy hP))
theorem stWhile {x : Nat → Int32} {n tc : Nat} {G : gE} {N fn : Nat} {R : ySrec} (hn : n ≤ 512) (hN : 5000 ≤ N) (hG : G.2.2.2.2 ≤ 1400) (hR : SRp x n tc G N fn R) {ns : Nat} {L : lE} {pl ms : Nat} {tk : yTok} {c nd bf o m k : Nat} {x1 : Int32} {τ : zSt} {Q : Int32 → zSt → Prop} (hV : SB x n tc G L tk c ns nd bf pl fn ms o τ) (hB : BD n tc tk c ns nd 0) (hW : WS τ o) (ho1 : 1 ≤ o) (ho : o ≤ ns) (hbf : bf ≤ L.2.2) (hL : L.2.2 ≤ tk.2.1) (hpl : pl ≤ ms) (hms : ms ≤ tk.2.1) (hm : 2 * n + 60 + k ≤ m + 2 * tk.2.1) (hk : tk.2.2.1 = 45) (h0 : yWh x n tc G R ns L pl ms tk c ≠ .error 0)
    (hok : ∀ t tk' c' ms' i nd' m' u, yWh x n tc G R ns L pl ms tk c = .ok (t, tk', c', ms') → SB x n tc G L tk' c' ns nd' bf pl fn ms' o u → BD n tc tk' c' ns nd' 0 → fB nd o L.2.2 fn τ u → nd ≤ nd' → rep u t nd nd' (nI i) → zA u 21 i = -1 → i < 4200 → rng nd nd' i → tk.2.1 < tk'.2.1 → ms ≤ ms' → ms' ≤ tk'.2.1 → 2 * n + 62 + k ≤ m' + 2 * tk'.2.1 → wp (fX12_block_b18 N m' x1 (nI i) u) Q)
    (her : ∀ e r u, yWh x n tc G R ns L pl ms tk c = .error e → e ≠ 0 → EB x n e τ u → Q r u) : wp (obd (fX12_statement N τ) (fun r u => fX12_block_b18 N m x1 r u)) Q := by
  have hBl := BD_le hB hn
  have hpn : tk.2.1 ≤ n := by have := hB.1.1; have := hB.1.2.1; omega
  have hns := hB.2.2.2.1
  have hK := rT_K hV.1.2.1
  rw [st43 hV.1.2.2.1 hK (Or.inr hk), obd_obd]
  rw [yWh_H] at h0 hok her
  refine wp_obd (branchR hn hN hG hV hB ho hk (Or.inr rfl) hL (fun q => h0 (by rw [q]; rfl)) ?_ ?_ ?_)
  · intro t tk1 c1 i1 nd1 u hres hVu hBu hEu hndu h15 h16 hrep h17 h18 h19 h20 h21 hp1
    simp only [hres, xb_k] at h0 hok her
    simp only [if_pos] at h15
    have hBl1 := BD_le hBu hn
    have hV2 := enS_SB (d := nd) (kd := 3) hVu
    have hW2 : WS (enS u o nd 3) (o + 1) := enS_WS (WS_cong hW (fun a i q1 q2 q3 => hEu.2.1 a i (by omega) (by omega))) (by omega) (Or.inr (Or.inr rfl)) ho1
    have hf2 : fB nd o L.2.2 fn τ (enS u o nd 3) := enS_fB (fE_B hEu)
    have g22 : zA (enS u o nd 3) 22 o = 3 := enS_22.1
    have g23 : zA (enS u o nd 3) 23 o = nI nd := enS_22.2
    have hA2 : ∀ a i, a ≤ 21 → zA (enS u o nd 3) a i = zA u a i := fun a i ha => enS_A (by omega)
    show wp (fX12_block_b18 N m x1 (-1) (enS u o nd 3)) Q
    revert hV2 hW2 hf2 g22 g23 hA2
    generalize enS u o nd 3 = s2
    intro hV2 hW2 hf2 g22 g23 hA2
    obtain ⟨m, rfl⟩ : ∃ g, m = g + 1 := ⟨m - 1, by omega⟩
    rw [brGo hV2.1.2.2.1 hV2.2.2.2.2.2 (by omega) g22 (by decide)]
    refine hR (ns + 1) L pl ms tk1 c1 nd1 bf (o + 1) m (k + 2) x1 s2 Q hV2 hBu hW2 (by omega) (by omega) hbf (by omega) hpl (by omega) (by omega) (fun q => h0 (by rw [q]; rfl)) ?_ ?_
    · intro t2 tk2 c2 ms2 i2 nd2 m2 z hres2 hVz hBz hfz hndz hrepz h21z hi2 hri2 hp2 hm2a hm2b hm2c
      have hBl2 := BD_le hBz hn
      have hpn2 : tk2.2.1 ≤ n := by have := hBz.1.1; have := hBz.1.2.1; omega
      simp only [hres2, xb_k] at hok
      obtain ⟨m2, rfl⟩ : ∃ g, m2 = g + 1 := ⟨m2 - 1, by omega⟩
      have z22 : zA z 22 o = 3 := (hfz.2.1 22 o (by omega) (by omega) (by omega) (by omega) (by omega)).trans g22
      have z23 : zA z 23 o = nI nd := (hfz.2.1 23 o (by omega) (by omega) (by omega) (by omega) (by omega)).trans g23
      rw [bkX hVz.1.2.2.1 hVz.2.2.2.2.2 (by omega), if_neg (by rw [z22]; decide), inBrD hVz.2.2.2.2.2 (by omega) z22 z23 (by omega) hi2, if_neg (by decide), if_neg (by decide), obd_s, hVz.1.2.2.2.2.1, nI_pred]
      have hVy : SB x n tc G L tk2 c2 ns nd2 bf pl fn ms2 o (zsI (zsI (zsA z 17 nd (nI i2)) 0 37 (nI ns)) 0 46 (nI o)) := SB_46 (SB_37 (SB_A hVz (by omega)))
      have hzA : ∀ a j, ¬ (a = 17 ∧ j = nd) → zA (zsI (zsI (zsA z 17 nd (nI i2)) 0 37 (nI ns)) 0 46 (nI o)) a j = zA z a j := fun a j q => by rw [zA_I, zA_I, zA_A, if_neg q]
      have hz17 : zA (zsI (zsI (zsA z 17 nd (nI i2)) 0 37 (nI ns)) 0 46 (nI o)) 17 nd = nI i2 := by rw [zA_I, zA_I, zA_A, if_pos ⟨rfl, rfl⟩]
      have hzu : ∀ a, 15 ≤ a → a ≤ 21 → zA z a nd = zA u a nd := fun a q1 q2 => (hfz.2.1 a nd (by omega) (by omega) (by omega) (by omega) (by omega)).trans (hA2 a nd q2)
      have hfy : fB nd o L.2.2 fn τ (zsI (zsI (zsA z 17 nd (nI i2)) 0 37 (nI ns)) 0 46 (nI o)) := fB_I (fB_I (fB_A (fB_trans hf2 hfz (by omega) (by omega) (Nat.le_refl _)) (by omega)) (by omega)) (by omega)
      refine hok _ tk2 c2 ms2 nd nd2 m2 _ rfl hVy ⟨hBz.1, hBz.2.1, hBz.2.2.1, by omega, hBz.2.2.2.2.1, by omega⟩ hfy (by omega) ?_ ?_ (by omega) ⟨Nat.le_refl _, by omega⟩ (by omega) hm2a hm2b (by omega)
      · refine rep_2 (p := nd1) rfl (by decide) (by omega) ?_ ?_ ?_ (by omega) (by omega) ?_ ?_ ?_
        · rw [hzA 15 nd (by omega), hzu 15 (by omega) (by omega)]; exact h15
        · rw [hzA 19 nd (by omega), hzu 19 (by omega) (by omega)]; exact h19
        · rw [hzA 20 nd (by omega), hzu 20 (by omega) (by omega)]; exact h20
        · rw [hzA 16 nd (by omega), hzu 16 (by omega) (by omega), h16]
          refine rep_frame _ _ _ _ (fun j hj => ⟨hj, fun a q1 q2 => ?_⟩) hrep
          rw [hzA a j (by have := hj.1; omega), hfz.2.1 a j (by have := hj.2; omega) (by omega) (by omega) (by omega) (by omega), hA2 a j q2]
        · rw [hz17]
          refine rep_frame _ _ _ _ (fun j hj => ⟨hj, fun a q1 q2 => ?_⟩) hrepz
          rw [hzA a j (by have := hj.1; omega)]
        · rw [hzA 18 nd (by omega), hzu 18 (by omega) (by omega)]; exact h18
      · rw [hzA 21 nd (by omega), hzu 21 (by omega) (by omega)]; exact h21
    · intro e r z hres2 he0 heb
      exact her e r z (by rw [hres2]; rfl) he0 (EB_tr heb (fB_P hf2))
  · intro e z hres he0 hpd hr hEz
    show wp (fX12_block_b18 N m x1 (-1) (enS z o nd 3)) Q
    exact brPend (ln := L.2.2) (fn := fn) hpd he0 hr hEz (by omega) (by decide) (by omega) (fun r y hy => her e r y (by rw [hres]; rfl) he0 hy)
  · intro e u hres he0 hfx
    obtain ⟨m, rfl⟩ : ∃ g, m = g + 1 := ⟨m - 1, by omega⟩
    exact bkE (by rw [hfx.1]; exact he0) (her e _ u (by rw [hres]; rfl) he0 (Or.inl ⟨hfx.1, hfx.2.1, hfx.2.2⟩))
