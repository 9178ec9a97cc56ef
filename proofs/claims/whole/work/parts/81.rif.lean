/-! THE REFERENCE'S READER: if -/
theorem stIf {x : Nat → Int32} {n tc : Nat} {G : gE} {N fn : Nat} {R : ySrec} (hn : n ≤ 512) (hN : 5000 ≤ N) (hG : G.2.2.2.2 ≤ 1400) (hR : SRp x n tc G N fn R) {ns : Nat} {L : lE} {pl ms : Nat} {tk : yTok} {c nd bf o m k : Nat} {x1 : Int32} {τ : zSt} {Q : Int32 → zSt → Prop} (hV : SB x n tc G L tk c ns nd bf pl fn ms o τ) (hB : BD n tc tk c ns nd 0) (hW : WS τ o) (ho1 : 1 ≤ o) (ho : o ≤ ns) (hbf : bf ≤ L.2.2) (hL : L.2.2 ≤ tk.2.1) (hpl : pl ≤ ms) (hms : ms ≤ tk.2.1) (hm : 2 * n + 60 + k ≤ m + 2 * tk.2.1) (hk : tk.2.2.1 = 43) (h0 : yIf x n tc G R ns L pl ms tk c ≠ .error 0)
    (hok : ∀ t tk' c' ms' i nd' m' u, yIf x n tc G R ns L pl ms tk c = .ok (t, tk', c', ms') → SB x n tc G L tk' c' ns nd' bf pl fn ms' o u → BD n tc tk' c' ns nd' 0 → fB nd o L.2.2 fn τ u → nd ≤ nd' → rep u t nd nd' (nI i) → zA u 21 i = -1 → i < 4200 → rng nd nd' i → tk.2.1 < tk'.2.1 → ms ≤ ms' → ms' ≤ tk'.2.1 → 2 * n + 62 + k ≤ m' + 2 * tk'.2.1 → wp (fX12_block_b18 N m' x1 (nI i) u) Q)
    (her : ∀ e r u, yIf x n tc G R ns L pl ms tk c = .error e → e ≠ 0 → EB x n e τ u → Q r u) : wp (obd (fX12_statement N τ) (fun r u => fX12_block_b18 N m x1 r u)) Q := by
  have hBl := BD_le hB hn
  have hpn : tk.2.1 ≤ n := by have := hB.1.1; have := hB.1.2.1; omega
  have hns := hB.2.2.2.1
  have hK := rT_K hV.1.2.1
  rw [st43 hV.1.2.2.1 hK (Or.inl hk), obd_obd]
  rw [yIf_H] at h0 hok her
  refine wp_obd (branchR hn hN hG hV hB ho hk (Or.inl rfl) hL (fun q => h0 (by rw [q]; rfl)) ?_ ?_ ?_)
  · intro t tk1 c1 i1 nd1 u hres hVu hBu hEu hndu h15 h16 hrep h17 h18 h19 h20 h21 hp1
    simp only [hres, xb_k] at h0 hok her
    rw [if_neg (by decide)] at h15
    have hBl1 := BD_le hBu hn
    have hV2 := enS_SB (d := nd) (kd := 1) hVu
    have hWu : WS u o := WS_cong hW (fun a i q1 q2 q3 => hEu.2.1 a i (by omega) (by omega))
    have hW2 : WS (enS u o nd 1) (o + 1) := enS_WS hWu (by omega) (Or.inl rfl) ho1
    have hf2 : fB nd o L.2.2 fn τ (enS u o nd 1) := enS_fB (fE_B hEu)
    have g22 : zA (enS u o nd 1) 22 o = 1 := enS_22.1
    have g23 : zA (enS u o nd 1) 23 o = nI nd := enS_22.2
    have hA2 : ∀ a i, a ≤ 21 → zA (enS u o nd 1) a i = zA u a i := fun a i ha => enS_A (by omega)
    rw [if_neg (by decide)]
    show wp (fX12_block_b18 N m x1 (-1) (enS u o nd 1)) Q
    revert hV2 hW2 hf2 g22 g23 hA2
    generalize enS u o nd 1 = s2
    intro hV2 hW2 hf2 g22 g23 hA2
    obtain ⟨m, rfl⟩ : ∃ g, m = g + 1 := ⟨m - 1, by omega⟩
    rw [brGo hV2.1.2.2.1 hV2.2.2.2.2.2 (by omega) g22 (by decide)]
    refine hR (ns + 1) L pl ms tk1 c1 nd1 bf (o + 1) m (k + 2) x1 s2 Q hV2 hBu hW2 (by omega) (by omega) hbf (by omega) hpl (by omega) (by omega) (fun q => h0 (by rw [q]; rfl)) ?_ ?_
    · intro t2 tk2 c2 ms2 i2 nd2 m2 z hres2 hVz hBz hfz hndz hrepz h21z hi2 hri2 hp2 hm2a hm2b hm2c
      have hBl2 := BD_le hBz hn
      have hBz' := hBz
      obtain ⟨d1, d2, d3, d4, d5, d6⟩ := hBz
      have hpn2 : tk2.2.1 ≤ n := by have := d1.1; have := d1.2.1; omega
      simp only [hres2, xb_k] at hok her h0
      obtain ⟨m2, rfl⟩ : ∃ g, m2 = g + 1 := ⟨m2 - 1, by omega⟩
      have z22 : zA z 22 o = 1 := (hfz.2.1 22 o (by omega) (by omega) (by omega) (by omega) (by omega)).trans g22
      have z23 : zA z 23 o = nI nd := (hfz.2.1 23 o (by omega) (by omega) (by omega) (by omega) (by omega)).trans g23
      rw [bkX hVz.1.2.2.1 hVz.2.2.2.2.2 (by omega), if_neg (by rw [z22]; decide), inBrD hVz.2.2.2.2.2 (by omega) z22 z23 (by omega) hi2, if_neg (by decide), if_pos rfl]
      -- the S behind ( E ) is linked
      have hVy : SB x n tc G L tk2 c2 (ns + 1) nd2 bf pl fn ms2 (o + 1) (zsA z 17 nd (nI i2)) := SB_A hVz (by omega)
      have hyA : ∀ a j, ¬ (a = 17 ∧ j = nd) → zA (zsA z 17 nd (nI i2)) a j = zA z a j := fun a j q => by rw [zA_A, if_neg q]
      have hy17 : zA (zsA z 17 nd (nI i2)) 17 nd = nI i2 := by rw [zA_A, if_pos ⟨rfl, rfl⟩]
      have hzu : ∀ a, 15 ≤ a → a ≤ 21 → zA z a nd = zA u a nd := fun a q1 q2 => (hfz.2.1 a nd (by omega) (by omega) (by omega) (by omega) (by omega)).trans (hA2 a nd q2)
      have hfy : fB nd o L.2.2 fn τ (zsA z 17 nd (nI i2)) := fB_A (fB_trans hf2 hfz (by omega) (by omega) (Nat.le_refl _)) (by omega)
      have hWy : WS (zsA z 17 nd (nI i2)) (o + 1) := WS_cong (fB_WS hfz hW2 (Nat.le_refl _)) (fun a i q1 q2 q3 => hyA a i (by omega))
      have y22 : zA (zsA z 17 nd (nI i2)) 22 o = 1 := (hyA 22 o (by omega)).trans z22
      have y23 : zA (zsA z 17 nd (nI i2)) 23 o = nI nd := (hyA 23 o (by omega)).trans z23
      -- both parts in a later state
      have parts : ∀ (w : zSt), (∀ a j, 15 ≤ a → a ≤ 21 → j < nd2 → nd ≤ j → ¬ (a = 18 ∧ j = nd) → zA w a j = zA (zsA z 17 nd (nI i2)) a j) → zA w 15 nd = 22 ∧ zA w 19 nd = 0 ∧ zA w 20 nd = 0 ∧ rep w t (nd + 1) nd1 (zA w 16 nd) ∧ rep w t2 nd1 nd2 (zA w 17 nd) ∧ zA w 21 nd = -1 := by
        intro w hw
        refine ⟨?_, ?_, ?_, ?_, ?_, ?_⟩
        · rw [hw 15 nd (by omega) (by omega) (by omega) (by omega) (by omega), hyA 15 nd (by omega), hzu 15 (by omega) (by omega)]; exact h15
        · rw [hw 19 nd (by omega) (by omega) (by omega) (by omega) (by omega), hyA 19 nd (by omega), hzu 19 (by omega) (by omega)]; exact h19
        · rw [hw 20 nd (by omega) (by omega) (by omega) (by omega) (by omega), hyA 20 nd (by omega), hzu 20 (by omega) (by omega)]; exact h20
        · rw [hw 16 nd (by omega) (by omega) (by omega) (by omega) (by omega), hyA 16 nd (by omega), hzu 16 (by omega) (by omega), h16]
          refine rep_frame _ _ _ _ (fun j hj => ⟨hj, fun a q1 q2 => ?_⟩) hrep
          rw [hw a j q1 q2 (by have := hj.2; omega) (by have := hj.1; omega) (by have := hj.1; omega), hyA a j (by have := hj.1; omega), hfz.2.1 a j (by have := hj.2; omega) (by omega) (by omega) (by omega) (by omega), hA2 a j q2]
        · rw [hw 17 nd (by omega) (by omega) (by omega) (by omega) (by omega), hy17]
          refine rep_frame _ _ _ _ (fun j hj => ⟨hj, fun a q1 q2 => ?_⟩) hrepz
          rw [hw a j q1 q2 (by have := hj.2; omega) (by have := hj.1; omega) (by have := hj.1; omega), hyA a j (by have := hj.1; omega)]
        · rw [hw 21 nd (by omega) (by omega) (by omega) (by omega) (by omega), hyA 21 nd (by omega), hzu 21 (by omega) (by omega)]; exact h21
      have y18 : zA (zsA z 17 nd (nI i2)) 18 nd = -1 := by rw [hyA 18 nd (by omega), hzu 18 (by omega) (by omega)]; exact h18
      revert hVy hfy hWy y22 y23 parts y18
      generalize zsA z 17 nd (nI i2) = y
      intro hVy hfy hWy y22 y23 parts y18
      have hKy := rT_K hVy.1.2.1
      by_cases h44 : tk2.2.2.1 = 44
      · rw [if_pos h44] at hok her h0
        have hlt2 := tk_ne d1 h44 (by decide)
        rw [isWordT ((wB44 hVy.1.2.2.1 hKy).mpr h44), obd_s, if_neg (by decide)]
        cases hne : ne (ns + 1) tk2.2.1 with
        | error e =>
          rw [hne] at her
          have he0 := ne_ne hne (by omega)
          have hfx : FXb x n 1100 e τ (zsI (zsI y 0 21 e) 0 37 (nI (ns + 1 + 1))) := FX_tr (FX_I (FX_mk (SV_rD hVy.1 d1.2.1 (by omega))) (by omega)) (fB_P hfy)
          rw [nestsE hne hVy.1.2.2.1 hVy.1.2.2.2.2.1 hVy.1.2.1.2.1, obd_s, nx_eq (x := x) (n := n) (p := tk2.1) hfx.2.1.1 (by simp only [zI_I, zI_L, zI_R, zI_A, zI_B, zL_I, zL_L, zL_R, zL_A, zL_B, zA_I, zA_L, zA_R, zA_A, zA_B, zB_I, zB_L, zB_R, zB_A, zB_B, reduceIte, Nat.reduceEqDiff, Nat.reduceEqDiff, false_and, and_false, true_and, and_true, ne_eq, not_false_eq_true, not_true_eq_false]; exact hVy.1.2.1.1) d1.2.1 (by omega), obd_s, obd_s]
          obtain ⟨m2, rfl⟩ : ∃ g, m2 = g + 1 := ⟨m2 - 1, by omega⟩
          have hf3 := FX_A (a := 22) (i := o) (v := 2) (FX_nx hfx d1.2.1) (by omega)
          exact bkE (by rw [hf3.1]; exact he0) (her e _ _ rfl he0 (Or.inl (FX_le hf3 (by omega))))
        | ok yy =>
          have hnsn := ne_kk hne
          rw [hne, xb_k] at hok her h0
          rw [nestsT hne hVy.1.2.2.2.2.1 d4, obd_s]
          have hV3 : SB x n tc G L tk2 c2 (ns + 2) nd2 bf pl fn ms2 (o + 1) (zsI y 0 37 (nI (ns + 1 + 1))) := SB_37 hVy
          have hf3 : fB nd o L.2.2 fn τ (zsI y 0 37 (nI (ns + 1 + 1))) := fB_I hfy (by omega)
          have hA3 : ∀ a j, zA (zsI y 0 37 (nI (ns + 1 + 1))) a j = zA y a j := fun a j => zA_I ..
          revert hV3 hf3 hA3
          generalize zsI y 0 37 (nI (ns + 1 + 1)) = s3
          intro hV3 hf3 hA3
          rw [nextS hV3.1 d1.2.1 (by omega), obd_s, nxS_swA]
          have hV4 : SB x n tc G L tk2 c2 (ns + 2) nd2 bf pl fn ms2 (o + 1) (zsA s3 22 o 2) := SB_A hV3 (by omega)
          have hf4 : fB nd o L.2.2 fn τ (zsA s3 22 o 2) := fB_A hf3 (by omega)
          have k22 : zA (zsA s3 22 o 2) 22 o = 2 := by rw [zA_A, if_pos ⟨rfl, rfl⟩]
          have k23 : zA (zsA s3 22 o 2) 23 o = nI nd := by rw [zA_A, if_neg (by omega), hA3]; exact y23
          have hA4 : ∀ a j, a ≤ 21 → zA (zsA s3 22 o 2) a j = zA y a j := fun a j ha => by rw [zA_A, if_neg (by omega), hA3]
          have hW4 : WS (zsA s3 22 o 2) (o + 1) := by
            intro i hi
            by_cases e : i = o
            · subst e
              rw [k22, k23]
              exact ⟨⟨nd, by omega, rfl⟩, Or.inr (Or.inr (Or.inl rfl)), fun q => absurd q (by decide), fun q => by omega⟩
            · rw [zA_A, if_neg (by omega), zA_A, if_neg (by omega), zA_A, if_neg (by omega), zA_A, if_neg (by omega), hA3, hA3, hA3, hA3]
              obtain ⟨w1, w2, w3, w4⟩ := hWy i (by omega)
              exact ⟨w1, w2, w3, fun q => by rw [zA_A, if_neg (by omega), hA3]; exact w4 q⟩
          revert hV4 hf4 k22 k23 hA4 hW4
          generalize zsA s3 22 o 2 = s4
          intro hV4 hf4 k22 k23 hA4 hW4
          rw [obd_s]
          cases hcm : cm x n tk2 with
          | error e =>
            rw [hcm] at her
            have he0 := cm_ne hn hcm d1.2.1
            obtain ⟨m2, rfl⟩ : ∃ g, m2 = g + 2 := ⟨m2 - 2, by omega⟩
            exact brNone (x := x) (n := n) (kd := 2) (PD_nx hcm hV4.1.2.2.1) he0 (rD_le (rD_nx (SV_rD hV4.1 d1.2.1 (by omega)) d1.2.1) (by omega)) ((nxS_I (by omega)).trans hV4.2.2.2.2.2) (by omega) (nxS_A.trans k22) (by decide) (fun r w hw => her e r w rfl he0 (EB_tr hw (nxS_P (fB_P hf4))))
          | ok t3 =>
            rw [hcm, xb_k] at hok her h0
            have ht3 := sat_get (cm_ok (x := x) (n := n) (t := tk2) (by omega) d1.2.1) hcm
            have hh3 := ht3.2
            have hV5 : SB x n tc G L t3 c2 (ns + 2) nd2 bf pl fn ms2 (o + 1) (nxS x n tk2.1 s4) := SB_fE (lo := 0) hV4 (SV_n hcm hV4.1) (nxS_E fE_refl)
            have hf5 : fB nd o L.2.2 fn τ (nxS x n tk2.1 s4) := fB_nx hf4
            have l22 : zA (nxS x n tk2.1 s4) 22 o = 2 := nxS_A.trans k22
            have l23 : zA (nxS x n tk2.1 s4) 23 o = nI nd := nxS_A.trans k23
            have hA5 : ∀ a j, a ≤ 21 → zA (nxS x n tk2.1 s4) a j = zA y a j := fun a j ha => nxS_A.trans (hA4 a j ha)
            have hW5 : WS (nxS x n tk2.1 s4) (o + 1) := WS_cong hW4 (fun a i _ _ _ => nxS_A)
            revert hV5 hf5 l22 l23 hA5 hW5
            generalize nxS x n tk2.1 s4 = s5
            intro hV5 hf5 l22 l23 hA5 hW5
            obtain ⟨m2, rfl⟩ : ∃ g, m2 = g + 1 := ⟨m2 - 1, by omega⟩
            rw [brGo hV5.1.2.2.1 hV5.2.2.2.2.2 (by omega) l22 (by decide)]
            refine hR (ns + 2) L pl ms2 t3 c2 nd2 bf (o + 1) m2 (k + 2) x1 s5 Q hV5 ⟨ht3.1, d2, d3, by omega, by omega, by omega⟩ hW5 (by omega) (by omega) hbf (by omega) (by omega) (by omega) (by omega) (fun q => h0 (by rw [q]; rfl)) ?_ ?_
            · intro t4 tk4 c4 ms4 i4 nd4 m4 w hres4 hVw hBw hfw hndw hrepw h21w hi4 hri4 hp4 hm4a hm4b hm4c
              have hBl4 := BD_le hBw hn
              have hpn4 : tk4.2.1 ≤ n := by have := hBw.1.1; have := hBw.1.2.1; omega
              simp only [hres4, xb_k] at hok
              obtain ⟨m4, rfl⟩ : ∃ g, m4 = g + 1 := ⟨m4 - 1, by omega⟩
              have w22 : zA w 22 o = 2 := (hfw.2.1 22 o (by omega) (by omega) (by omega) (by omega) (by omega)).trans l22
              have w23 : zA w 23 o = nI nd := (hfw.2.1 23 o (by omega) (by omega) (by omega) (by omega) (by omega)).trans l23
              rw [bkX hVw.1.2.2.1 hVw.2.2.2.2.2 (by omega), if_neg (by rw [w22]; decide), inBrD hVw.2.2.2.2.2 (by omega) w22 w23 (by omega) hi4, if_pos rfl, obd_s, hVw.1.2.2.2.2.1]
              have fin2 : ∀ q : Nat, q ≤ 40 → nI (q + 2) - 2 = nI q := by decide +kernel
              have e2 : nI (ns + 2) - 2 = nI ns := fin2 ns (by omega)
              rw [e2]
              have hVv : SB x n tc G L tk4 c4 ns nd4 bf pl fn ms4 o (zsI (zsI (zsA w 18 nd (nI i4)) 0 37 (nI ns)) 0 46 (nI o)) := SB_46 (SB_37 (SB_A hVw (by omega)))
              have hvA : ∀ a j, ¬ (a = 18 ∧ j = nd) → zA (zsI (zsI (zsA w 18 nd (nI i4)) 0 37 (nI ns)) 0 46 (nI o)) a j = zA w a j := fun a j q => by rw [zA_I, zA_I, zA_A, if_neg q]
              have hv18 : zA (zsI (zsI (zsA w 18 nd (nI i4)) 0 37 (nI ns)) 0 46 (nI o)) 18 nd = nI i4 := by rw [zA_I, zA_I, zA_A, if_pos ⟨rfl, rfl⟩]
              have hfv : fB nd o L.2.2 fn τ (zsI (zsI (zsA w 18 nd (nI i4)) 0 37 (nI ns)) 0 46 (nI o)) := fB_I (fB_I (fB_A (fB_trans hf5 hfw (by omega) (by omega) (Nat.le_refl _)) (by omega)) (by omega)) (by omega)
              obtain ⟨u1, u2, u3, u4, u5, u6⟩ := parts (zsI (zsI (zsA w 18 nd (nI i4)) 0 37 (nI ns)) 0 46 (nI o)) (fun a j q1 q2 q3 q4 q5 => by
                rw [hvA a j q5, hfw.2.1 a j (by omega) (by omega) (by omega) (by omega) (by omega), hA5 a j q2])
              refine hok _ tk4 c4 ms4 nd nd4 m4 _ rfl hVv ⟨hBw.1, hBw.2.1, hBw.2.2.1, by omega, hBw.2.2.2.2.1, by omega⟩ hfv (by omega) ?_ u6 (by omega) ⟨Nat.le_refl _, by omega⟩ (by omega) (by omega) hm4b (by omega)
              refine rep_3 rfl (by decide) (by omega) u1 u2 u3 (by omega) (by omega) (by omega) u4 u5 ?_
              rw [hv18]
              refine rep_frame _ _ _ _ (fun j hj => ⟨hj, fun a q1 q2 => ?_⟩) hrepw
              rw [hvA a j (by have := hj.1; omega)]
            · intro e r w hres4 he0 heb
              exact her e r w (by rw [hres4]; rfl) he0 (EB_tr heb (fB_P hf5))
      · rw [if_neg h44] at hok
        rw [isWordF (wF44 hVy.1.2.2.1 hKy h44), obd_s, if_pos rfl, obd_s, hVy.1.2.2.2.2.1, hVy.2.2.2.2.2, nI_pred, nI_pred]
        have hVv : SB x n tc G L tk2 c2 ns nd2 bf pl fn ms2 o (zsI (zsI y 0 37 (nI ns)) 0 46 (nI o)) := SB_46 (SB_37 hVy)
        have hvA : ∀ a j, zA (zsI (zsI y 0 37 (nI ns)) 0 46 (nI o)) a j = zA y a j := fun a j => by rw [zA_I, zA_I]
        have hfv : fB nd o L.2.2 fn τ (zsI (zsI y 0 37 (nI ns)) 0 46 (nI o)) := fB_I (fB_I hfy (by omega)) (by omega)
        obtain ⟨u1, u2, u3, u4, u5, u6⟩ := parts (zsI (zsI y 0 37 (nI ns)) 0 46 (nI o)) (fun a j q1 q2 q3 q4 q5 => hvA a j)
        refine hok _ tk2 c2 ms2 nd nd2 m2 _ rfl hVv ⟨d1, d2, d3, by omega, d5, by omega⟩ hfv (by omega) ?_ u6 (by omega) ⟨Nat.le_refl _, by omega⟩ (by omega) hm2a hm2b (by omega)
        exact rep_2 rfl (by decide) (by omega) u1 u2 u3 (by omega) (by omega) u4 u5 ((hvA 18 nd).trans y18)
    · intro e r z hres2 he0 heb
      exact her e r z (by rw [hres2]; rfl) he0 (EB_tr heb (fB_P hf2))
  · intro e z hres he0 hpd hr hEz
    rw [if_neg (by decide)]
    exact brPend (ln := L.2.2) (fn := fn) hpd he0 hr hEz (by omega) (by decide) (by omega) (fun r y hy => her e r y (by rw [hres]; rfl) he0 hy)
  · intro e u hres he0 hfx
    obtain ⟨m, rfl⟩ : ∃ g, m = g + 1 := ⟨m - 1, by omega⟩
    exact bkE (by rw [hfx.1]; exact he0) (her e _ u (by rw [hres]; rfl) he0 (Or.inl ⟨hfx.1, hfx.2.1, hfx.2.2⟩))
