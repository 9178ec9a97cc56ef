/-! THE REFERENCE'S READER: every S -/
theorem stBlk {x : Nat → Int32} {n tc : Nat} {G : gE} {N fn : Nat} {R : ySrec} (hn : n ≤ 512) (hN : 5000 ≤ N) (hG : G.2.2.2.2 ≤ 1400) (hfn : fn < 1400) (hR : SRp x n tc G N fn R) (hsW : sW R) {ns : Nat} {L : lE} {pl ms : Nat} {tk : yTok} {c nd bf o m k : Nat} {x1 : Int32} {τ : zSt} {Q : Int32 → zSt → Prop} (hV : SB x n tc G L tk c ns nd bf pl fn ms o τ) (hB : BD n tc tk c ns nd 0) (hW : WS τ o) (ho : o ≤ ns) (hbf : bf ≤ L.2.2) (hL : L.2.2 ≤ tk.2.1) (hpl : pl ≤ ms) (hms : ms ≤ tk.2.1) (hm : 2 * n + 60 + k ≤ m + 2 * tk.2.1) (hk : tk.2.2.1 = 51) (h0 : yBk x n tc G R ns L pl ms tk c ≠ .error 0)
    (hok : ∀ t tk' c' ms' i nd' m' u, yBk x n tc G R ns L pl ms tk c = .ok (t, tk', c', ms') → SB x n tc G L tk' c' ns nd' bf pl fn ms' o u → BD n tc tk' c' ns nd' 0 → fB nd o L.2.2 fn τ u → nd ≤ nd' → rep u t nd nd' (nI i) → zA u 21 i = -1 → i < 4200 → rng nd nd' i → tk.2.1 < tk'.2.1 → ms ≤ ms' → ms' ≤ tk'.2.1 → 2 * n + 62 + k ≤ m' + 2 * tk'.2.1 → wp (fX12_block_b18 N m' x1 (nI i) u) Q)
    (her : ∀ e r u, yBk x n tc G R ns L pl ms tk c = .error e → e ≠ 0 → EB x n e τ u → Q r u) : wp (obd (fX12_statement N τ) (fun r u => fX12_block_b18 N m x1 r u)) Q := by
  have hBl := BD_le hB hn
  have hB' := hB
  obtain ⟨b1, b2, b3, b4, b5, b6⟩ := hB
  have hpn : tk.2.1 ≤ n := by have := b1.1; have := b1.2.1; omega
  have hD := SV_rD hV.1 b1.2.1 (by omega)
  have hK := rT_K hV.1.2.1
  rw [hk] at hK
  rw [st51 hV.1.2.2.1 hK, hV.1.2.1.2.1, hV.1.2.2.2.2.1]
  unfold yBk at h0 hok her
  obtain ⟨m1, hm1⟩ : ∃ g, m = g + 1 := ⟨m - 1, by omega⟩
  cases hne : ne ns tk.2.1 with
  | error e =>
    rw [hne, xb_e] at her
    have he0 := ne_ne hne (by omega)
    obtain ⟨ee, hn40⟩ := ne_ee hne
    rw [hn40, if_pos (show nI 40 = 40 from rfl), failsR, flS_eq hV.1.2.2.1, ← ee, obd_s]
    have hfx : FXb x n 1100 e τ (zsI τ 0 21 e) := FX_mk hD
    have hf2 := FX_I (k := 36) (v := zI (zsI τ 0 21 e) 0 36 + 4) hfx (by omega)
    unfold fX12_statement_b39
    rw [fourD (by rw [hfx.1]; exact he0), obd_s, isWellF (by rw [hf2.1]; exact he0), obd_s, if_pos rfl, obd_s, hm1]
    exact bkE (by rw [hf2.1]; exact he0) (her e _ _ rfl he0 (Or.inl (FX_le hf2 (by omega))))
  | ok y =>
    have hns := ne_kk hne
    rw [hne, xb_k] at h0 hok her
    rw [if_neg (show ¬ nI ns = 40 from fun q => hns ((nI_eq (a := ns) (b := 40) (by omega) (by omega)).mp q))]
    unfold fX12_statement_b39
    cases hf : fo tc c tk.2.1 with
    | error e =>
      rw [hf, xb_e] at her
      have he0 := fo_ne hf (by omega)
      have hfx : FXb x n 1100 e τ (zsI (zsI τ 0 21 e) 0 36 (nI (c + 4))) := FX_I (FX_mk hD) (by omega)
      rw [fourE hf hV.1.2.2.1 hV.1.2.2.2.1 hV.1.1.2.1 (by omega), obd_s, isWellF (by rw [hfx.1]; exact he0), obd_s, if_pos rfl, obd_s, hm1]
      exact bkE (by rw [hfx.1]; exact he0) (her e _ _ rfl he0 (Or.inl (FX_le hfx (by omega))))
    | ok c1 =>
      rw [hf, xb_k] at h0 hok her
      obtain ⟨hc1, hc2⟩ := fo_kk hf
      have hE1 : fE nd 0 τ (zsI τ 0 36 (nI c1)) := fE_I fE_refl (by omega)
      have hV1 : SB x n tc G L tk c1 ns nd bf pl fn ms o (zsI τ 0 36 (nI c1)) := SB_fE hV (SV_36 hV.1) hE1
      rw [fourT hf hV.1.2.2.2.1 hV.1.1.2.1 b3, obd_s]
      revert hV1 hE1
      generalize zsI τ 0 36 (nI c1) = s1
      intro hE1 hV1
      rw [isWellT hV1.1.2.2.1, obd_s, if_neg (by decide)]
      have hf1 : fB nd o L.2.2 fn τ s1 := fE_B hE1
      have hx : wp (obd (fX12_beginBlock N s1) (fun _ u => fX12_block_b18 N m x1 (-1) u)) Q := by
        refine blockR hn hN hG hfn hR hsW hV1 ⟨b1, by omega, b3, b4, b5, b6⟩ (fB_WS hf1 hW (Nat.le_refl _)) ho hns hk hL hpl hms hm (fun q => h0 (by rw [q]; rfl)) ?_ ?_
        · intro r tk' c' ms' nd' m' u hres hVu hBu hfu hndu hrep h21 hp1 hq1 hq2 hmu
          rw [hres, xb_k] at hok
          exact hok _ tk' c' ms' nd nd' m' u rfl hVu hBu (fB_trans hf1 hfu (Nat.le_refl _) (Nat.le_refl _) (Nat.le_refl _)) (by omega) hrep h21 (by omega) ⟨Nat.le_refl _, by omega⟩ hp1 hq1 hq2 hmu
        · intro e r u hres he0 heb
          rw [hres, xb_e] at her
          exact her e r u rfl he0 (EB_tr heb (fE_P hE1))
      obtain ⟨r, u, e1, e2⟩ := hx
      refine ⟨r, u, ?_, e2⟩
      rw [← e1]
      cases fX12_beginBlock N s1 with
      | none => rfl
      | some q => rfl
theorem ySt_sW {x : Nat → Int32} {n tc : Nat} {G : gE} {R : ySrec} : sW (ySt x n tc G R) := by
  intro ns L pl ms tk c
  unfold ySt
  by_cases h1 : tk.2.2.1 = 51
  · rw [if_pos h1]; unfold yBk
    exact stk_xb (fun _ _ => stk_xb (fun _ _ => stk_xb (fun _ _ => stk_ok isN_N)))
  rw [if_neg h1]
  by_cases h2 : tk.2.2.1 = 43
  · rw [if_pos h2, yIf_H]
    refine stk_xb (fun _ _ => stk_xb (fun s _ => ?_))
    by_cases h3 : s.2.1.2.2.1 = 44
    · rw [if_pos h3]; exact stk_xb (fun _ _ => stk_xb (fun _ _ => stk_xb (fun _ _ => stk_ok isN_N)))
    · rw [if_neg h3]; exact stk_ok isN_N
  rw [if_neg h2]
  by_cases h3 : tk.2.2.1 = 45
  · rw [if_pos h3, yWh_H]; exact stk_xb (fun _ _ => stk_xb (fun _ _ => stk_ok isN_N))
  rw [if_neg h3]
  by_cases h4 : tk.2.2.1 = 46
  · rw [if_pos h4]; unfold yRt; exact stk_xb (fun _ _ => stk_xb (fun _ _ => stk_xb (fun _ _ => stk_xb (fun _ _ => stk_ok isN_N))))
  rw [if_neg h4]
  by_cases h5 : tk.2.2.1 = 47
  · rw [if_pos h5]; unfold yPr; exact stk_xb (fun _ _ => stk_xb (fun _ _ => stk_xb (fun _ _ => stk_xb (fun _ _ => stk_xb (fun _ _ => stk_ok isN_N)))))
  rw [if_neg h5]
  by_cases h6 : tk.2.2.1 = 56
  · rw [if_pos h6]; unfold yEm; exact stk_xb (fun _ _ => stk_xb (fun _ _ => stk_ok isN_N))
  rw [if_neg h6]
  by_cases h7 : tk.2.2.1 = 40
  · rw [if_pos h7]
    unfold yNm
    cases look G L tk.2.2.2 with
    | none => exact stk_er
    | some q =>
      refine stk_xb (fun _ _ => stk_xb (fun t1 _ => ?_))
      unfold yAs
      by_cases a1 : t1.2.2.1 = 57
      · rw [if_pos a1]
        by_cases a2 : kdOf G q = 0
        · rw [if_pos a2]
          refine stk_xb (fun _ _ => stk_xb (fun _ _ => stk_xb (fun _ _ => stk_ok ?_)))
          cases q with
          | inl j => exact isN_N
          | inr g => exact isN_N
        · rw [if_neg a2]; exact stk_er
      · rw [if_neg a1]
        by_cases a2 : t1.2.2.1 = 53
        · rw [if_pos a2]
          exact stk_xb (fun _ _ => stk_xb (fun _ _ => stk_xb (fun _ _ => stk_xb (fun _ _ => stk_xb (fun _ _ => stk_ok isN_N)))))
        · rw [if_neg a2]
          by_cases a3 : t1.2.2.1 = 49
          · rw [if_pos a3]
            exact stk_xb (fun _ _ => stk_xb (fun _ _ => stk_xb (fun _ _ => stk_ok isN_N)))
          · rw [if_neg a3]; exact stk_er
  rw [if_neg h7]
  exact stk_er
theorem yS_sW {x : Nat → Int32} {n tc : Nat} {G : gE} : ∀ d, sW (yS x n tc G d) := by
  intro d
  cases d with
  | zero => intro ns L pl ms tk c v hv; cases hv
  | succ d => exact ySt_sW
theorem yStR {x : Nat → Int32} {n tc : Nat} {G : gE} {N fn : Nat} {R : ySrec} (hn : n ≤ 512) (hN : 5000 ≤ N) (hG : G.2.2.2.2 ≤ 1400) (hfn : fn < 1400) (hR : SRp x n tc G N fn R) (hsW : sW R) : SRp x n tc G N fn (ySt x n tc G R) := by
  intro ns L pl ms tk c nd bf o m k x1 τ Q hV hB hW ho1 ho hbf hL hpl hms hm h0 hok her
  have hBl := BD_le hB hn
  have hpn : tk.2.1 ≤ n := by have := hB.1.1; have := hB.1.2.1; omega
  have hLn : L.2.2 ≤ 1400 := by omega
  unfold ySt at h0 hok her
  by_cases h1 : tk.2.2.1 = 51
  · rw [if_pos h1] at h0 hok her
    exact stBlk hn hN hG hfn hR hsW hV hB hW ho hbf hL hpl hms hm h1 h0 hok her
  rw [if_neg h1] at h0 hok her
  by_cases h2 : tk.2.2.1 = 43
  · rw [if_pos h2] at h0 hok her
    exact stIf hn hN hG hR hV hB hW ho1 ho hbf hL hpl hms hm h2 h0 hok her
  rw [if_neg h2] at h0 hok her
  by_cases h3 : tk.2.2.1 = 45
  · rw [if_pos h3] at h0 hok her
    exact stWhile hn hN hG hR hV hB hW ho1 ho hbf hL hpl hms hm h3 h0 hok her
  rw [if_neg h3] at h0 hok her
  by_cases h4 : tk.2.2.1 = 46
  · rw [if_pos h4] at h0 hok her
    exact leafS hn hV hB hW ho hms hm (stRet hn hN hG hLn hV.1 hB h4 h0) h0 hok her
  rw [if_neg h4] at h0 hok her
  by_cases h5 : tk.2.2.1 = 47
  · rw [if_pos h5] at h0 hok her
    exact leafS hn hV hB hW ho hms hm (stPrint hn hN hG hLn hV.1 hB h5 h0) h0 hok her
  rw [if_neg h5] at h0 hok her
  by_cases h6 : tk.2.2.1 = 56
  · rw [if_pos h6] at h0 hok her
    exact leafS hn hV hB hW ho hms hm (stEmp hn hN hV.1 hB h6) h0 hok her
  rw [if_neg h6] at h0 hok her
  by_cases h7 : tk.2.2.1 = 40
  · rw [if_pos h7] at h0 hok her
    exact leafS hn hV hB hW ho hms hm (stName hn hN hG hLn hV.1 hB h7 h0) h0 hok her
  rw [if_neg h7] at h0 hok her
  have he0 : (2 : Int32) + 16 * nI tk.2.1 ≠ 0 := er_ne erK2 (by omega)
  rw [stNo hV.1.2.2.1 (rT_K hV.1.2.1) ⟨h1, h2, h3, h4, h5, h6, h7⟩, obd_s, stE_T hV.1.2.1 hB.1.2.2.2]
  obtain ⟨m, rfl⟩ : ∃ g, m = g + 1 := ⟨m - 1, by omega⟩
  have hf : FXb x n 1100 (2 + 16 * nI tk.2.1) τ (zsI τ 0 21 (2 + 16 * nI tk.2.1)) := FX_mk (SV_rD hV.1 hB.1.2.1 (by omega))
  exact bkE (by rw [hf.1]; exact he0) (her _ _ _ rfl he0 (Or.inl (FX_le hf (by omega))))
/-- the reference reads an S as the middle does -/
theorem ySR {x : Nat → Int32} {n tc : Nat} {G : gE} {N fn : Nat} (hn : n ≤ 512) (hN : 5000 ≤ N) (hG : G.2.2.2.2 ≤ 1400) (hfn : fn < 1400) : ∀ d, SRp x n tc G N fn (yS x n tc G d) := by
  intro d
  induction d with
  | zero => intro ns L pl ms tk c nd bf o m k x1 τ Q _ _ _ _ _ _ _ _ _ _ h0; exact absurd rfl h0
  | succ d ih => exact yStR hn hN hG hfn ih (yS_sW d)
