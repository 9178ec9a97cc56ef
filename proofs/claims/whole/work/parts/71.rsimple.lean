/-! THE REFERENCE'S READER: return, print, ; -/
def ndF (u : zSt) (d : Nat) (k : Int32) : Prop := zA u 15 d = k ∧ zA u 16 d = -1 ∧ zA u 17 d = -1 ∧ zA u 18 d = -1 ∧ zA u 19 d = 0 ∧ zA u 20 d = 0 ∧ zA u 21 d = -1
theorem ndF_cong {u z : zSt} {d : Nat} {k : Int32} (h : ndF u d k) (hz : ∀ a, 15 ≤ a → a ≤ 21 → zA z a d = zA u a d) : ndF z d k := by
  unfold ndF
  rw [hz 15 (by omega) (by omega), hz 16 (by omega) (by omega), hz 17 (by omega) (by omega), hz 18 (by omega) (by omega), hz 19 (by omega) (by omega), hz 20 (by omega) (by omega), hz 21 (by omega) (by omega)]
  exact h
/-- the cells, the node, the next token -/
theorem headR {x : Nat → Int32} {n tc : Nat} {G : gE} {L : lE} {N : Nat} {tk : yTok} {c ns nd : Nat} {k : Int32} {τ : zSt} {Q : Int32 → zSt → Prop} {K : Int32 → zSt → Option (Int32 × zSt)} (hn : n ≤ 512) (hN : 5000 ≤ N) (hV : SV x n tc G L tk c ns nd τ) (hB : BD n tc tk c ns nd 0) (hk : tk.2.2.1 ≠ 58)
    (hok : ∀ c1 t1 u, fo tc c tk.2.1 = .ok c1 → cm x n tk = .ok t1 → SV x n tc G L t1 c1 ns (nd + 1) u → BD n tc t1 c1 ns (nd + 1) 0 → fE nd 0 τ u → ndF u nd k → tk.2.1 < t1.2.1 → wp (K (nI nd) u) Q)
    (hfo : ∀ e u, fo tc c tk.2.1 = .error e → e ≠ 0 → FXb x n 1100 e τ u → wp (K (nI nd) u) Q)
    (hcm : ∀ c1 e u, fo tc c tk.2.1 = .ok c1 → cm x n tk = .error e → e ≠ 0 → PD e u → rD x n 1100 u → fE nd 0 τ u → ndF u nd k → wp (K (nI nd) u) Q) :
    wp (obd (fX12_four N (nI tk.2.1) τ) (fun _ u => obd (fX12_node N k u) (fun r u => obd (fX12_next N u) (fun _ u => K r u)))) Q := by
  have hBl := BD_le hB hn
  obtain ⟨b1, b2, b3, b4, b5, b6⟩ := hB
  have hlt := tk_ne b1 rfl hk
  have hD := SV_rD hV b1.2.1 (by omega)
  cases hf : fo tc c tk.2.1 with
  | error e =>
    have he0 : e ≠ 0 := fo_ne hf (by omega)
    rw [fourE hf hV.2.2.1 hV.2.2.2.1 hV.1.2.1 (by omega), obd_s, nodeR (d := nd) (by simp only [zI_I, zI_L, zI_R, zI_A, zI_B, zL_I, zL_L, zL_R, zL_A, zL_B, zA_I, zA_L, zA_R, zA_A, zA_B, zB_I, zB_L, zB_R, zB_A, zB_B, reduceIte, Nat.reduceEqDiff, Nat.reduceEqDiff, false_and, and_false, true_and, and_true, ne_eq, not_false_eq_true, not_true_eq_false]; exact hV.2.2.2.2.2) (by omega), obd_s, nx_eq (x := x) (n := n) (p := tk.1) (srcR_fP hV.1.1 (ndS_P (fP_I (fP_I fP_refl (by omega)) (by omega)))) (by rw [ndS_I (by omega)]; simp only [zI_I, zI_L, zI_R, zI_A, zI_B, zL_I, zL_L, zL_R, zL_A, zL_B, zA_I, zA_L, zA_R, zA_A, zA_B, zB_I, zB_L, zB_R, zB_A, zB_B, reduceIte, Nat.reduceEqDiff, Nat.reduceEqDiff, false_and, and_false, true_and, and_true, ne_eq, not_false_eq_true, not_true_eq_false]; exact hV.2.1.1) b1.2.1 (by omega), obd_s]
    exact hfo e _ hf he0 (FX_nx (FX_nd (FX_I (FX_mk hD) (by omega)) (by omega)) b1.2.1)
  | ok c1 =>
    obtain ⟨hc1, hc2⟩ := fo_kk hf
    have hV1 : SV x n tc G L tk c1 ns (nd + 1) (ndS (zsI τ 0 36 (nI c1)) k nd) := SV_nd (SV_36 hV)
    have hE1 : fE nd 0 τ (ndS (zsI τ 0 36 (nI c1)) k nd) := ndS_E (fE_I fE_refl (by omega)) (Nat.le_refl _)
    have hF1 : ndF (ndS (zsI τ 0 36 (nI c1)) k nd) nd k := ⟨nd15, nd16, nd17, nd18, nd19, nd20, nd21⟩
    rw [fourT hf hV.2.2.2.1 hV.1.2.1 b3, obd_s, nodeR (d := nd) (by simp only [zI_I, zI_L, zI_R, zI_A, zI_B, zL_I, zL_L, zL_R, zL_A, zL_B, zA_I, zA_L, zA_R, zA_A, zA_B, zB_I, zB_L, zB_R, zB_A, zB_B, reduceIte, Nat.reduceEqDiff, Nat.reduceEqDiff, false_and, and_false, true_and, and_true, ne_eq, not_false_eq_true, not_true_eq_false]; exact hV.2.2.2.2.2) (by omega), obd_s]
    revert hV1 hE1 hF1
    generalize ndS (zsI τ 0 36 (nI c1)) k nd = s
    intro hV1 hE1 hF1
    rw [nextS hV1 b1.2.1 (by omega), obd_s]
    have hF2 : ndF (nxS x n tk.1 s) nd k := ndF_cong hF1 (fun a _ _ => nxS_A)
    cases hc : cm x n tk with
    | error e => exact hcm c1 e _ hf hc (cm_ne hn hc b1.2.1) (PD_nx hc hV1.2.2.1) (rD_nx (SV_rD hV1 b1.2.1 (by omega)) b1.2.1) (nxS_E hE1) hF2
    | ok t1 =>
      have ht1 := sat_get (cm_ok (x := x) (n := n) (t := tk) (by omega) b1.2.1) hc
      have hh1 := ht1.2
      exact hok c1 t1 _ hf hc (SV_n hc hV1) ⟨ht1.1, by omega, b3, b4, by omega, by omega⟩ (nxS_E hE1) hF2 (by omega)
theorem exTD {x : Nat → Int32} {n N b d0 ar : Nat} {e s : Int32} {τ u : zSt} {Q : Int32 → zSt → Prop} {K : zSt → Option (Int32 × zSt)} (hN : 5000 ≤ N) (h : FXb x n b e τ u) (he : e ≠ 0) (hd : d0 < 4200) (har : ar = 16 ∨ ar = 17) (hK : ∀ z, FXb x n b e τ z → wp (K z) Q) :
    wp (obd (fX12_expression N s u) (fun r u => if nI d0 < 0 ∨ 4200 ≤ (nI d0).toNatClampNeg then none else bnd (zsA u ar (nI d0).toNatClampNeg r) (fun u2 => obd (fX12_takes N s u2) (fun _ u3 => K u3)))) Q := by
  obtain ⟨z, z1, z2⟩ := exprD (s := s) h he hN
  have z3 : FXb x n b e τ (zsA z ar d0 0) := FX_A z2 (by omega)
  rw [z1, obd_s, nI_clamp (by omega), if_neg (ixN hd (by omega)), bnd_e, takesD (by rw [z3.1]; exact he), obd_s]
  exact hK _ z3
theorem exTP {x : Nat → Int32} {n N d0 ar : Nat} {e cl s : Int32} {τ u : zSt} {Q : Int32 → zSt → Prop} {K : zSt → Option (Int32 × zSt)} (hN : 5000 ≤ N) (hs : s = sgC cl) (h : PD e u) (hr : rD x n 1200 u) (hp : fP τ u) (he : e ≠ 0) (hd : d0 < 4200) (har : ar = 16 ∨ ar = 17) (hK : ∀ z, FXb x n 1200 e τ z → wp (K z) Q) :
    wp (obd (fX12_expression N s u) (fun r u => if nI d0 < 0 ∨ 4200 ≤ (nI d0).toNatClampNeg then none else bnd (zsA u ar (nI d0).toNatClampNeg r) (fun u2 => obd (fX12_takes N s u2) (fun _ u3 => K u3)))) Q := by
  subst hs
  refine wp_obd (wp_mono (exprP (cl := cl) hN h hr he) (fun r z hz => ?_))
  rw [nI_clamp (by omega), if_neg (ixN hd (by omega)), bnd_e]
  obtain ⟨y, y1, y2⟩ := EE_takes (N := N) (EE_A (a := ar) (i := d0) (v := r) hz (by omega)) he
  rw [y1, obd_s]
  exact hK y (FX_tr y2 hp)
theorem closes_takes {N : Nat} {s : Int32} {K : zSt → Option (Int32 × zSt)} (u2 : zSt) : obd (fX12_closes N s u2) (fun _ u3 => K u3) = obd (fX12_takes N s u2) (fun _ u3 => K (zsI u3 0 37 (zI u3 0 37 - 1))) := by
  unfold fX12_closes
  cases fX12_takes N s u2 with
  | none => rfl
  | some q => rfl
theorem exCD {x : Nat → Int32} {n N b d0 ar : Nat} {e s : Int32} {τ u : zSt} {Q : Int32 → zSt → Prop} {K : zSt → Option (Int32 × zSt)} (hN : 5000 ≤ N) (h : FXb x n b e τ u) (he : e ≠ 0) (hd : d0 < 4200) (har : ar = 16 ∨ ar = 17) (hK : ∀ z, FXb x n b e τ z → wp (K z) Q) :
    wp (obd (fX12_expression N s u) (fun r u => if nI d0 < 0 ∨ 4200 ≤ (nI d0).toNatClampNeg then none else bnd (zsA u ar (nI d0).toNatClampNeg r) (fun u2 => obd (fX12_closes N s u2) (fun _ u3 => K u3)))) Q := by
  simp only [closes_takes]
  exact exTD (K := fun u3 => K (zsI u3 0 37 (zI u3 0 37 - 1))) hN h he hd har (fun z hz => hK _ (FX_I hz (by omega)))
theorem exCP {x : Nat → Int32} {n N d0 ar : Nat} {e cl s : Int32} {τ u : zSt} {Q : Int32 → zSt → Prop} {K : zSt → Option (Int32 × zSt)} (hN : 5000 ≤ N) (hs : s = sgC cl) (h : PD e u) (hr : rD x n 1200 u) (hp : fP τ u) (he : e ≠ 0) (hd : d0 < 4200) (har : ar = 16 ∨ ar = 17) (hK : ∀ z, FXb x n 1200 e τ z → wp (K z) Q) :
    wp (obd (fX12_expression N s u) (fun r u => if nI d0 < 0 ∨ 4200 ≤ (nI d0).toNatClampNeg then none else bnd (zsA u ar (nI d0).toNatClampNeg r) (fun u2 => obd (fX12_closes N s u2) (fun _ u3 => K u3)))) Q := by
  simp only [closes_takes]
  exact exTP (K := fun u3 => K (zsI u3 0 37 (zI u3 0 37 - 1))) hN hs h hr hp he hd har (fun z hz => hK _ (FX_I hz (by omega)))
/-! which S it is -/
theorem st46 {N : Nat} {τ : zSt} (h21 : zI τ 0 21 = 0) (hK : rK τ 46) : fX12_statement N τ = obd (fX12_four N (zI τ 0 18) τ) (fun _ u => obd (fX12_node N 24 u) (fun r u => obd (fX12_next N u) (fun _ u => obd (fX12_expression N 59 u) (fun r2 u => if r < 0 ∨ 4200 ≤ r.toNatClampNeg then none else bnd (zsA u 16 r.toNatClampNeg r2) (fun u2 => obd (fX12_takes N 59 u2) (fun _ u3 => some (r, u3))))))) := by
  unfold fX12_statement
  rw [isWellT h21, obd_s, if_neg (by decide), bnd_e, isSignF (sF51 h21 hK (by decide)), obd_s, if_pos rfl, isWordF (wF43 h21 hK (by decide)), obd_s, if_pos rfl, isWordF (wF45 h21 hK (by decide)), obd_s, if_pos rfl, isWordT ((wB46 h21 hK).mpr rfl), obd_s, if_neg (by decide)]
theorem st47 {N : Nat} {τ : zSt} (h21 : zI τ 0 21 = 0) (hK : rK τ 47) : fX12_statement N τ = obd (fX12_four N (zI τ 0 18) τ) (fun _ u => obd (fX12_node N 25 u) (fun r u => obd (fX12_next N u) (fun _ u => obd (fX12_opens N 40 u) (fun _ u => obd (fX12_expression N 41 u) (fun r2 u => if r < 0 ∨ 4200 ≤ r.toNatClampNeg then none else bnd (zsA u 16 r.toNatClampNeg r2) (fun u2 => obd (fX12_closes N 41 u2) (fun _ u3 => obd (fX12_takes N 59 u3) (fun _ u4 => some (r, u4))))))))) := by
  unfold fX12_statement
  rw [isWellT h21, obd_s, if_neg (by decide), bnd_e, isSignF (sF51 h21 hK (by decide)), obd_s, if_pos rfl, isWordF (wF43 h21 hK (by decide)), obd_s, if_pos rfl, isWordF (wF45 h21 hK (by decide)), obd_s, if_pos rfl, isWordF (wF46 h21 hK (by decide)), obd_s, if_pos rfl, isWordT ((wB47 h21 hK).mpr rfl), obd_s, if_neg (by decide)]
theorem st56 {N : Nat} {τ : zSt} (h21 : zI τ 0 21 = 0) (hK : rK τ 56) : fX12_statement N τ = obd (fX12_four N (zI τ 0 18) τ) (fun _ u => obd (fX12_node N 30 u) (fun r u => obd (fX12_next N u) (fun _ u => some (r, u)))) := by
  unfold fX12_statement
  rw [isWellT h21, obd_s, if_neg (by decide), bnd_e, isSignF (sF51 h21 hK (by decide)), obd_s, if_pos rfl, isWordF (wF43 h21 hK (by decide)), obd_s, if_pos rfl, isWordF (wF45 h21 hK (by decide)), obd_s, if_pos rfl, isWordF (wF46 h21 hK (by decide)), obd_s, if_pos rfl, isWordF (wF47 h21 hK (by decide)), obd_s, if_pos rfl, isSignT ((sB56 h21 hK).mpr rfl), obd_s, if_neg (by decide)]
theorem stRet {x : Nat → Int32} {n tc : Nat} {G : gE} {L : lE} {N : Nat} {R : ySrec} {tk : yTok} {c ns nd pl ms : Nat} {τ : zSt} (hn : n ≤ 512) (hN : 5000 ≤ N) (hG : G.2.2.2.2 ≤ 1400) (hLn : L.2.2 ≤ 1400) (hV : SV x n tc G L tk c ns nd τ) (hB : BD n tc tk c ns nd 0) (hk : tk.2.2.1 = 46) (h0 : yRt x n tc G R ns L pl ms tk c ≠ .error 0) : wp (fX12_statement N τ) (LQ x n tc G L tk ns nd ms τ (yRt x n tc G R ns L pl ms tk c)) := by
  have hBl := BD_le hB hn
  have hK := rT_K hV.2.1
  rw [hk] at hK
  rw [st46 hV.2.2.1 hK, hV.2.1.2.1]
  unfold yRt at h0 ⊢
  refine headR hn hN hV hB (by rw [hk]; decide) ?_ ?_ ?_
  · intro c1 t1 u hf hc hVu hBu hEu hFu hpl
    simp only [hf, hc, xb_k] at h0 ⊢
    refine exT (cl := 56) (K := fun u3 => some (nI nd, u3)) hn hN hG hLn (Or.inl rfl) rfl (Or.inl rfl) hVu hBu (by omega) (fun q => h0 (by rw [q]; rfl)) ?_ ?_
    · intro t tk' c' i nd' z hres hVz hBz hfz hndz hslot hrep hi hri hk' hplz
      simp only [hres, xb_k]
      refine wp_s (LQ_n hn rfl hVz hBz (by rw [hk']; decide) (fE_trans hEu (fX1_E hfz (by omega) (by omega) (by omega)) (Nat.le_refl _) (Nat.le_refl _)) (by omega) ?_ ?_ (by omega) ⟨Nat.le_refl _, by omega⟩ (by omega))
      · refine rep_1 rfl (by decide) (by omega) ?_ ?_ ?_ (by omega) ?_ ?_ ?_
        · rw [hfz.2.1 15 nd (by omega) (by omega) (by omega)]; exact hFu.1
        · rw [hfz.2.1 19 nd (by omega) (by omega) (by omega)]; exact hFu.2.2.2.2.1
        · rw [hfz.2.1 20 nd (by omega) (by omega) (by omega)]; exact hFu.2.2.2.2.2.1
        · rw [hslot]; exact rep_frame _ _ _ _ (fun j hj => ⟨hj, fun a _ _ => rfl⟩) hrep
        · rw [hfz.2.1 17 nd (by omega) (by omega) (by omega)]; exact hFu.2.2.1
        · rw [hfz.2.1 18 nd (by omega) (by omega) (by omega)]; exact hFu.2.2.2.1
      · rw [hfz.2.1 21 nd (by omega) (by omega) (by omega)]; exact hFu.2.2.2.2.2.2
    · intro e z hres he0 hfx
      exact wp_s (LQ_e (by rw [hres]; rfl) he0 (FX_tr hfx (fE_P hEu)) (by omega))
  · intro e u hf he0 hfx
    exact exTD hN hfx he0 (by omega) (Or.inl rfl) (fun z hz => wp_s (LQ_e (by rw [hf]; rfl) he0 hz (by omega)))
  · intro c1 e u hf hc he0 hpd hr hEu hFu
    exact exTP (cl := 56) hN rfl hpd (rD_le hr (by omega)) (fE_P hEu) he0 (by omega) (Or.inl rfl) (fun z hz => wp_s (LQ_e (by rw [hf, xb_k, hc]; rfl) he0 hz (by omega)))
theorem stEmp {x : Nat → Int32} {n tc : Nat} {G : gE} {L : lE} {N : Nat} {R : ySrec} {tk : yTok} {c ns nd pl ms : Nat} {τ : zSt} (hn : n ≤ 512) (hN : 5000 ≤ N) (hV : SV x n tc G L tk c ns nd τ) (hB : BD n tc tk c ns nd 0) (hk : tk.2.2.1 = 56) : wp (fX12_statement N τ) (LQ x n tc G L tk ns nd ms τ (yEm x n tc G R ns L pl ms tk c)) := by
  have hBl := BD_le hB hn
  have hK := rT_K hV.2.1
  rw [hk] at hK
  rw [st56 hV.2.2.1 hK, hV.2.1.2.1]
  unfold yEm
  refine headR hn hN hV hB (by rw [hk]; decide) ?_ ?_ ?_
  · intro c1 t1 u hf hc hVu hBu hEu hFu hpl
    refine wp_s ⟨fun e he => (by rw [hf, xb_k, hc, xb_k] at he; cases he), fun t2 tk2 c2 ms2 h2 => ?_⟩
    rw [hf, xb_k, hc, xb_k] at h2
    cases h2
    refine ⟨rfl, nd, nd + 1, rfl, hVu, hBu, hEu, by omega, ?_, hFu.2.2.2.2.2.2, by omega, ⟨Nat.le_refl _, by omega⟩, hpl⟩
    exact rep_0 rfl (by decide) (by omega) hFu.1 hFu.2.2.2.2.1 hFu.2.2.2.2.2.1 hFu.2.1 hFu.2.2.1 hFu.2.2.2.1
  · intro e u hf he0 hfx
    exact wp_s (LQ_e (by rw [hf]; rfl) he0 hfx (by omega))
  · intro c1 e u hf hc he0 hpd hr hEu hFu
    refine wp_s ⟨fun e2 he => ?_, fun t2 tk2 c2 ms2 h2 => by rw [hf, xb_k, hc] at h2; cases h2⟩
    rw [hf, xb_k, hc] at he
    cases he
    exact ⟨he0, Or.inr ⟨hpd, rD_le hr (by omega), hEu, nd, by omega, rfl⟩⟩
/-- ( E ) in an S -/
theorem brR {x : Nat → Int32} {n tc : Nat} {G : gE} {L : lE} {N : Nat} {tk : yTok} {c ns nd d0 : Nat} {τ : zSt} {Q : Int32 → zSt → Prop} {K : zSt → Option (Int32 × zSt)} (hn : n ≤ 512) (hN : 5000 ≤ N) (hG : G.2.2.2.2 ≤ 1400) (hLn : L.2.2 ≤ 1400) (hV : SV x n tc G L tk c ns nd τ) (hB : BD n tc tk c ns nd 0) (hd : d0 < nd) (h0 : yBr x n (yE x n tc G L 42) ns tk c ≠ .error 0)
    (hok : ∀ t tk' c' i nd' u, yBr x n (yE x n tc G L 42) ns tk c = .ok (t, tk', c') → SV x n tc G L tk' c' ns nd' u → BD n tc tk' c' ns nd' 0 → fX1 nd d0 16 τ u → nd ≤ nd' → zA u 16 d0 = nI i → rep u t nd nd' (nI i) → i < 4200 → tk.2.1 < tk'.2.1 → wp (K u) Q)
    (hpen : ∀ e u, yBr x n (yE x n tc G L 42) ns tk c = .error e → e ≠ 0 → PD e u → rD x n 1100 u → fX1 nd d0 16 τ u → wp (K u) Q)
    (her : ∀ e u, yBr x n (yE x n tc G L 42) ns tk c = .error e → e ≠ 0 → FXb x n 1200 e τ u → wp (K u) Q) :
    wp (obd (fX12_opens N 40 τ) (fun _ u => obd (fX12_expression N 41 u) (fun r u => if nI d0 < 0 ∨ 4200 ≤ (nI d0).toNatClampNeg then none else bnd (zsA u 16 (nI d0).toNatClampNeg r) (fun u2 => obd (fX12_closes N 41 u2) (fun _ u3 => K u3))))) Q := by
  have hBl := BD_le hB hn
  obtain ⟨b1, b2, b3, b4, b5, b6⟩ := hB
  have hK := rT_K hV.2.1
  have hD := SV_rD hV b1.2.1 (by omega)
  unfold yBr at h0 hok hpen her
  cases hnd : need 49 tk with
  | error e =>
    rw [hnd, xb_e] at her
    have he0 := need_ne hnd (by omega)
    obtain ⟨ee, hk1⟩ := need_ee hnd
    have hst : stE τ = e := by rw [ee]; exact stE_T hV.2.1 b1.2.2.2
    rw [opensF (sF49 hV.2.2.1 hK hk1), obd_s, stS_eq hV.2.2.1, hst]
    exact exCD hN (FX_mk hD) he0 (by omega) (Or.inl rfl) (fun z hz => her e z rfl he0 ⟨hz.1, rD_le hz.2.1 (by omega), hz.2.2⟩)
  | ok y =>
    rw [hnd, xb_k] at h0 hok hpen her
    have hk1 := need_kk hnd
    have hlt := tk_ne b1 hk1 (by decide)
    have hsg := (sB49 hV.2.2.1 hK).mpr hk1
    cases hne : ne ns tk.2.1 with
    | error e =>
      rw [hne, xb_e] at her
      have he0 := ne_ne hne (by omega)
      rw [opensE hne he0 hsg hV.2.2.1 hV.2.2.2.2.1 hV.2.1.2.1, obd_s]
      exact exCD hN (FX_I (FX_mk hD) (by omega)) he0 (by omega) (Or.inl rfl) (fun z hz => her e z rfl he0 ⟨hz.1, rD_le hz.2.1 (by omega), hz.2.2⟩)
    | ok y2 =>
      have hns := ne_kk hne
      rw [hne, xb_k] at h0 hok hpen her
      rw [opensT hne hsg hV.2.2.1 hV.2.2.2.2.1 b4 hV.1.1 hV.2.1.1 b1.2.1 (by omega), obd_s]
      have hV1 : SV x n tc G L tk c (ns + 1) nd (zsI τ 0 37 (nI (ns + 1))) := SV_37 hV
      have hE1 : fE nd 0 τ (zsI τ 0 37 (nI (ns + 1))) := fE_I fE_refl (by omega)
      have hA1 : ∀ a i, zA (zsI τ 0 37 (nI (ns + 1))) a i = zA τ a i := fun a i => zA_I ..
      revert hV1 hE1 hA1
      generalize zsI τ 0 37 (nI (ns + 1)) = s1
      intro hV1 hE1 hA1
      cases hcm : cm x n tk with
      | error e =>
        rw [hcm, xb_e] at her
        have he0 := cm_ne hn hcm b1.2.1
        exact exCP (cl := 50) hN rfl (PD_nx hcm hV1.2.2.1) (rD_le (rD_nx (SV_rD hV1 b1.2.1 (by omega)) b1.2.1) (by omega)) (nxS_P (fE_P hE1)) he0 (by omega) (Or.inl rfl) (fun z hz => her e z rfl he0 hz)
      | ok t2 =>
        rw [hcm, xb_k] at h0 hok hpen her
        have ht2 := sat_get (cm_ok (x := x) (n := n) (t := tk) (by omega) b1.2.1) hcm
        have hh2 := ht2.2
        refine exC (cl := 50) (K := K) hn hN hG hLn (Or.inr (Or.inl rfl)) rfl (Or.inl rfl) (SV_n hcm hV1) ⟨ht2.1, b2, b3, by omega, by omega, by omega⟩ hd (fun q => h0 (by rw [q]; rfl)) ?_ ?_
        · intro t tk' c' i nd' z hres hVz hBz hfz hndz hslot hrep hi hri hk' hplz
          rw [hres, xb_k] at hok hpen
          have hBlz := BD_le hBz hn
          obtain ⟨d1, d2, d3, d4, d5, d6⟩ := hBz
          have hltz := tk_ne d1 hk' (by decide)
          have hf1 : fX1 nd d0 16 τ z := ⟨fun j hj => (hfz.1 j hj).trans ((nxS_I (by omega)).trans (hE1.1 j hj)), fun a i q1 q2 q3 => (hfz.2.1 a i q1 q2 q3).trans (nxS_A.trans (hA1 a i)), fun a i => (hfz.2.2 a i).trans (nxS_B.trans (hE1.2.2 a i))⟩
          cases hcm2 : cm x n tk' with
          | error e =>
            rw [hcm2] at hpen
            exact hpen e _ rfl (cm_ne hn hcm2 d1.2.1) (PD_nx hcm2 hVz.2.2.1) (rD_nx (SV_rD hVz d1.2.1 (by omega)) d1.2.1) ⟨fun j hj => (nxS_I (by omega)).trans (hf1.1 j hj), fun a i q1 q2 q3 => nxS_A.trans (hf1.2.1 a i q1 q2 q3), fun a i => nxS_B.trans (hf1.2.2 a i)⟩
          | ok t4 =>
            rw [hcm2] at hok
            have ht4 := sat_get (cm_ok (x := x) (n := n) (t := tk') (by omega) d1.2.1) hcm2
            have hh4 := ht4.2
            refine hok t t4 c' i nd' _ rfl (SV_n hcm2 hVz) ⟨ht4.1, d2, d3, d4, by omega, by omega⟩ ⟨fun j hj => (nxS_I (by omega)).trans (hf1.1 j hj), fun a i q1 q2 q3 => nxS_A.trans (hf1.2.1 a i q1 q2 q3), fun a i => nxS_B.trans (hf1.2.2 a i)⟩ hndz (nxS_A.trans hslot) ?_ hi (by omega)
            exact rep_frame _ _ _ _ (fun j hj => ⟨hj, fun a _ _ => nxS_A⟩) hrep
        · intro e z hres he0 hfx
          rw [hres, xb_e] at her
          exact her e z rfl he0 (FX_tr hfx (nxS_P (fE_P hE1)))
theorem brD {x : Nat → Int32} {n N b d0 : Nat} {e : Int32} {τ u : zSt} {Q : Int32 → zSt → Prop} {K : zSt → Option (Int32 × zSt)} (hN : 5000 ≤ N) (h : FXb x n b e τ u) (he : e ≠ 0) (hd : d0 < 4200) (hK : ∀ z, FXb x n b e τ z → wp (K z) Q) :
    wp (obd (fX12_opens N 40 u) (fun _ u => obd (fX12_expression N 41 u) (fun r u => if nI d0 < 0 ∨ 4200 ≤ (nI d0).toNatClampNeg then none else bnd (zsA u 16 (nI d0).toNatClampNeg r) (fun u2 => obd (fX12_closes N 41 u2) (fun _ u3 => K u3))))) Q := by
  rw [opensD (by rw [h.1]; exact he), obd_s]
  exact exCD hN h he hd (Or.inl rfl) hK
theorem brP {x : Nat → Int32} {n N d0 : Nat} {e : Int32} {τ u : zSt} {Q : Int32 → zSt → Prop} {K : zSt → Option (Int32 × zSt)} (hN : 5000 ≤ N) (h : PD e u) (hr : rD x n 1100 u) (hp : fP τ u) (he : e ≠ 0) (hd : d0 < 4200) (hK : ∀ z, FXb x n 1200 e τ z → wp (K z) Q) :
    wp (obd (fX12_opens N 40 u) (fun _ u => obd (fX12_expression N 41 u) (fun r u => if nI d0 < 0 ∨ 4200 ≤ (nI d0).toNatClampNeg then none else bnd (zsA u 16 (nI d0).toNatClampNeg r) (fun u2 => obd (fX12_closes N 41 u2) (fun _ u3 => K u3))))) Q := by
  rw [opensF (sF49 h.1 (PD_K h) (by decide)), obd_s, stS_eq h.1, stE_P h]
  exact exCD hN (FX_tr (FX_mk (rD_le hr (by omega))) hp) he hd (Or.inl rfl) hK
theorem stPrint {x : Nat → Int32} {n tc : Nat} {G : gE} {L : lE} {N : Nat} {R : ySrec} {tk : yTok} {c ns nd pl ms : Nat} {τ : zSt} (hn : n ≤ 512) (hN : 5000 ≤ N) (hG : G.2.2.2.2 ≤ 1400) (hLn : L.2.2 ≤ 1400) (hV : SV x n tc G L tk c ns nd τ) (hB : BD n tc tk c ns nd 0) (hk : tk.2.2.1 = 47) (h0 : yPr x n tc G R ns L pl ms tk c ≠ .error 0) : wp (fX12_statement N τ) (LQ x n tc G L tk ns nd ms τ (yPr x n tc G R ns L pl ms tk c)) := by
  have hBl := BD_le hB hn
  have hK := rT_K hV.2.1
  rw [hk] at hK
  rw [st47 hV.2.2.1 hK, hV.2.1.2.1]
  unfold yPr at h0 ⊢
  refine headR hn hN hV hB (by rw [hk]; decide) ?_ ?_ ?_
  · intro c1 t1 u hf hc hVu hBu hEu hFu hpl
    simp only [hf, hc, xb_k] at h0 ⊢
    refine brR (K := fun u3 => obd (fX12_takes N 59 u3) (fun _ u4 => some (nI nd, u4))) hn hN hG hLn hVu hBu (by omega) (fun q => h0 (by rw [q]; rfl)) ?_ ?_ ?_
    · intro t tk' c' i nd' z hres hVz hBz hfz hndz hslot hrep hi hplz
      simp only [hres, xb_k]
      have hBlz := BD_le hBz hn
      have hKz := rT_K hVz.2.1
      have hEz := fE_trans hEu (fX1_E (lo := nd) hfz (by omega) (by omega) (by omega)) (Nat.le_refl _) (Nat.le_refl _)
      cases hnd : need 56 tk' with
      | error e =>
        obtain ⟨ee, hk1⟩ := need_ee hnd
        have he0 := need_ne hnd (by omega)
        rw [takesF (sF56 hVz.2.2.1 hKz hk1), stS_eq hVz.2.2.1, stE_T hVz.2.1 hBz.1.2.2.2, ← ee, obd_s]
        exact wp_s (LQ_e rfl he0 (FX_tr (FX_mk (SV_rD hVz hBz.1.2.1 (by omega))) (fE_P hEz)) (by omega))
      | ok y =>
        have hk1 := need_kk hnd
        rw [takesR_yes ((sB56 hVz.2.2.1 hKz).mpr hk1), nextS hVz hBz.1.2.1 (by omega), obd_s]
        refine wp_s (LQ_n hn rfl hVz hBz (by rw [hk1]; decide) hEz (by omega) ?_ ?_ (by omega) ⟨Nat.le_refl _, by omega⟩ (by omega))
        · refine rep_1 rfl (by decide) (by omega) ?_ ?_ ?_ (by omega) ?_ ?_ ?_
          · rw [hfz.2.1 15 nd (by omega) (by omega) (by omega)]; exact hFu.1
          · rw [hfz.2.1 19 nd (by omega) (by omega) (by omega)]; exact hFu.2.2.2.2.1
          · rw [hfz.2.1 20 nd (by omega) (by omega) (by omega)]; exact hFu.2.2.2.2.2.1
          · rw [hslot]; exact rep_frame _ _ _ _ (fun j hj => ⟨hj, fun a _ _ => rfl⟩) hrep
          · rw [hfz.2.1 17 nd (by omega) (by omega) (by omega)]; exact hFu.2.2.1
          · rw [hfz.2.1 18 nd (by omega) (by omega) (by omega)]; exact hFu.2.2.2.1
        · rw [hfz.2.1 21 nd (by omega) (by omega) (by omega)]; exact hFu.2.2.2.2.2.2
    · intro e z hres he0 hpd hr hp
      rw [takesF (sF56 hpd.1 (PD_K hpd) (by decide)), stS_eq hpd.1, stE_P hpd, obd_s]
      exact wp_s (LQ_e (by rw [hres]; rfl) he0 (FX_tr (FX_mk hr) (fP_trans (fE_P hEu) (fE_P (fX1_E (lo := 0) hp (by omega) (Nat.zero_le _) (Nat.zero_le _))))) (by omega))
    · intro e z hres he0 hfx
      rw [takesD (by rw [hfx.1]; exact he0), obd_s]
      exact wp_s (LQ_e (by rw [hres]; rfl) he0 (FX_tr hfx (fE_P hEu)) (by omega))
  · intro e u hf he0 hfx
    refine brD hN hfx he0 (by omega) (fun z hz => ?_)
    rw [takesD (by rw [hz.1]; exact he0), obd_s]
    exact wp_s (LQ_e (by rw [hf]; rfl) he0 hz (by omega))
  · intro c1 e u hf hc he0 hpd hr hEu hFu
    refine brP hN hpd hr (fE_P hEu) he0 (by omega) (fun z hz => ?_)
    rw [takesD (by rw [hz.1]; exact he0), obd_s]
    exact wp_s (LQ_e (by rw [hf, xb_k, hc]; rfl) he0 hz (by omega))
