/-! THE REFERENCE'S READER: a call whole; names; any part -/
theorem ofI (k : Nat) : Int32.ofInt (k : Int) = nI k := by
  first
    | rfl
    | exact Int32.ofInt_natCast k
    | (apply Int32.toBitVec_inj.mp; simp [nI])
def yCallQ (x : Nat → Int32) (n : Nat) (R : yRec) (G : gE) (g p ns : Nat) (tk : yTok) (c : Nat) : Except Int32 (fT × yTok × Nat) :=
  xb (ne ns tk.2.1) (fun _ => xb (cm x n tk) (fun t2 => xb (if t2.2.2.1 = 50 then .ok (fZ, 0, t2, c) else yParts x n R (n + 2) (ns + 1) t2 c) (fun u =>
  if nI u.2.1 = G.2.2.2.1 g then .ok (fN 9 g u.2.1 u.1 fZ fZ, u.2.2.1, u.2.2.2) else er 6 p)))
theorem yCall_Q {x : Nat → Int32} {n : Nat} {R : yRec} {G : gE} {g p ns : Nat} {tk : yTok} {c : Nat} (h : G.2.1 g = 2) : yCall x n R G (.inr g) p ns tk c = xb (yCallQ x n R G g p ns tk c) (fun v => xb (cm x n v.2.1) (fun t4 => .ok (v.1, t4, v.2.2))) := by
  unfold yCall yCallQ
  rw [if_pos (show kdOf G (.inr g) = 2 from h)]
  cases ne ns tk.2.1 with
  | error e => rfl
  | ok _ =>
    rw [xb_k, xb_k]
    cases cm x n tk with
    | error e => rfl
    | ok t2 =>
      rw [xb_k, xb_k]
      cases (if t2.2.2.1 = 50 then Except.ok (fZ, 0, t2, c) else yParts x n R (n + 2) (ns + 1) t2 c) with
      | error e => rfl
      | ok u =>
        rw [xb_k, xb_k]
        by_cases e : nI u.2.1 = G.2.2.2.1 g
        · rw [if_pos e, if_pos (show nI u.2.1 = mnOf G (.inr g) from e)]; rfl
        · rw [if_neg e, if_neg (show ¬ nI u.2.1 = mnOf G (.inr g) from e)]; rfl
theorem eCall {x : Nat → Int32} {n tc : Nat} {G : gE} {L : lE} {N : Nat} {tk : yTok} {c ns nd d0 w g p k : Nat} {u : zSt} {Q : Int32 → zSt → Prop} {Kx : Int32 → zSt → Option (Int32 × zSt)} (hn : n ≤ 512) (hN : 5000 ≤ N) (hV : RV x n tc G L tk c (ns + 1) nd (w + 1) u) (hB : BD n tc tk c (ns + 1) nd (w + 1)) (hk : tk.2.2.1 = 50) (hd : d0 < 4200) (h19 : zA u 19 d0 = nI g) (h20 : zA u 20 d0 = nI k) (hg : g < G.2.2.2.2) (hG : G.2.2.2.2 ≤ 1400) (hp : p ≤ 4096)
    (hok : nI k = G.2.2.2.1 g → wp (Kx (nI d0) (nxS x n tk.1 (zsI (zsI u 0 37 (nI ns)) 0 54 (nI w)))) Q)
    (her : nI k ≠ G.2.2.2.1 g → ∀ z, FXb x n 1100 (6 + 16 * nI p) u z → wp (Kx (nI d0) z) Q) : wp (obd (fX12_endsCall N (nI d0) (nI p) u) (fun r z => Kx r z)) Q := by
  have hBl := BD_le hB hn
  have hnames := hV.1.2.2.2.1 g hg
  unfold fX12_endsCall
  rw [nI_clamp (show d0 < 2 ^ 31 by omega), if_neg (ixN hd (by omega)), if_neg (ixN hd (by omega)), h19, nI_clamp (show g < 2 ^ 31 by omega), if_neg (ixN (show g < 1400 by omega) (by omega)), h20, hnames.2.2.1]
  by_cases e : nI k = G.2.2.2.1 g
  · rw [if_pos e]
    unfold fX12_endsCall_b27
    have hKu := rT_K hV.2.1
    rw [closesT2 ((sB50 hV.2.2.1 hKu).mpr hk) hV.1.1 hV.2.1.1 hBl.2.2.2 (by omega) hV.2.2.2.2.1, obd_s, bnd_e, obd_s, nxS_I (by omega), zI_I, if_neg (by omega), hV.2.2.2.2.2.2, nI_pred, nxS_sw (by omega)]
    exact hok e
  · rw [if_neg e, failsR, flS_eq hV.2.2.1, obd_s]
    unfold fX12_endsCall_b27
    have he0 : (6 : Int32) + 16 * nI p ≠ 0 := er_ne erK6 hp
    have hfx : FXb x n 1100 (6 + 16 * nI p) u (zsI u 0 21 (6 + 16 * nI p)) := FX_mk (RV_rD hV hBl.2.2.2 (by omega))
    rw [closesD (by rw [hfx.1]; exact he0), obd_s, bnd_e, obd_s]
    exact her e _ (FX_I (k := 54) (FX_I (k := 37) hfx (by omega)) (by omega))
theorem callR {x : Nat → Int32} {n tc : Nat} {G : gE} {L : lE} {N : Nat} {R : yRec} {tk : yTok} {c ns nd w m g p : Nat} {τ : zSt} {Q : Int32 → zSt → Prop} {Kc : Int32 → zSt → Option (Int32 × zSt)} (hn : n ≤ 512) (hN : 5000 ≤ N) (hR : LVp x n tc G L N R) (hW : rW R) (hK1 : ∀ u, Kc (-1) u = fX12_works_b2 N m (-1) u) (hK2 : ∀ d u, d < 4200 → (zI u 0 21 ≠ 0 ∨ zI u 0 54 = nI w) → wp (fX12_works_b2 N m (nI d) u) Q → wp (Kc (nI d) u) Q) (hV : RV x n tc G L tk c ns nd w τ) (hB : BD n tc tk c ns nd w) (hm : n + 4 ≤ m + tk.2.1) (hk : tk.2.2.1 = 49) (hg : g < G.2.2.2.2) (hG : G.2.2.2.2 ≤ 1400) (hp : p ≤ 4096) (h0 : yCallQ x n R G g p ns tk c ≠ .error 0)
    (hok : ∀ t tk' c' i nd' m' u, yCallQ x n R G g p ns tk c = .ok (t, tk', c') → RV x n tc G L tk' c' ns nd' w u → BD n tc tk' c' ns nd' w → fE nd w τ u → nd ≤ nd' → rep u t nd nd' (nI i) → zA u 21 i = -1 → i < 4200 → tk'.2.2.1 = 50 → tk.2.1 < tk'.2.1 → n + 5 ≤ m' + 1 + tk'.2.1 → wp (fX12_works_b2 N m' (nI i) (nxS x n tk'.1 u)) Q)
    (her : ∀ e r u, yCallQ x n R G g p ns tk c = .error e → e ≠ 0 → FX x n e τ u → Q r u) : wp (obd (fX12_call N (nI p) (nI g) τ) (fun r u => Kc r u)) Q := by
  have hBl := BD_le hB hn
  obtain ⟨b1, b2, b3, b4, b5, b6⟩ := hB
  have hlt := tk_ne b1 hk (by decide)
  unfold fX12_call
  rw [nodeR hV.2.2.2.2.2.1 (by omega), obd_s, nI_clamp (show nd < 2 ^ 31 by omega), if_neg (ixN (show nd < 4200 by omega) (by omega)), bnd_e]
  have hV0 : RV x n tc G L tk c ns (nd + 1) w (zsA (ndS τ 9 nd) 19 nd (nI g)) := RV_A (RV_nd hV) (by omega)
  have hE0 : fE nd w τ (zsA (ndS τ 9 nd) 19 nd (nI g)) := fE_A (ndS_E fE_refl (Nat.le_refl _)) (by omega)
  have hz0 : zA (zsA (ndS τ 9 nd) 19 nd (nI g)) 15 nd = 9 ∧ zA (zsA (ndS τ 9 nd) 19 nd (nI g)) 16 nd = -1 ∧ zA (zsA (ndS τ 9 nd) 19 nd (nI g)) 17 nd = -1 ∧ zA (zsA (ndS τ 9 nd) 19 nd (nI g)) 18 nd = -1 ∧ zA (zsA (ndS τ 9 nd) 19 nd (nI g)) 19 nd = nI g ∧ zA (zsA (ndS τ 9 nd) 19 nd (nI g)) 20 nd = 0 ∧ zA (zsA (ndS τ 9 nd) 19 nd (nI g)) 21 nd = -1 := by
    simp only [zI_I, zI_L, zI_R, zI_A, zI_B, zL_I, zL_L, zL_R, zL_A, zL_B, zA_I, zA_L, zA_R, zA_A, zA_B, zB_I, zB_L, zB_R, zB_A, zB_B, reduceIte, Nat.reduceEqDiff, Nat.reduceEqDiff, false_and, and_false, true_and, and_true, ne_eq, not_false_eq_true, not_true_eq_false, nd15, nd16, nd17, nd18, nd20, nd21, and_self]
  revert hV0 hE0 hz0
  generalize zsA (ndS τ 9 nd) 19 nd (nI g) = s0
  intro hV0 hE0 hz0
  have hK := rT_K hV0.2.1
  have hsg := (sB49 hV0.2.2.1 hK).mpr hk
  have hD := RV_rD hV0 b1.2.1 (by omega)
  unfold yCallQ at hok her h0
  cases hne : ne ns tk.2.1 with
  | error e =>
    rw [hne, xb_e] at her
    have he0 := ne_ne hne (by omega)
    have hfx : FXb x n 1100 e τ (zsI (zsI s0 0 21 e) 0 37 (nI (ns + 1))) := FX_tr (FX_I (FX_mk hD) (by omega)) (fE_P hE0)
    rw [opensE hne he0 hsg hV0.2.2.1 hV0.2.2.2.2.1 hV0.2.1.2.1, obd_s, isWellF (by rw [hfx.1]; exact he0), obd_s, if_pos rfl, obd_s, hK1]
    obtain ⟨m, rfl⟩ : ∃ g, m = g + 1 := ⟨m - 1, by omega⟩
    exact wkE (by rw [hfx.1]; exact he0) (fun r => her e r _ rfl he0 (FX_le hfx (by omega)))
  | ok y =>
    have hns := ne_kk hne
    rw [hne, xb_k] at hok her h0
    rw [opensT hne hsg hV0.2.2.1 hV0.2.2.2.2.1 b4 hV0.1.1 hV0.2.1.1 b1.2.1 (by omega), obd_s]
    have hV1 : RV x n tc G L tk c (ns + 1) (nd + 1) w (zsI s0 0 37 (nI (ns + 1))) := RV_37 hV0
    have hE1 : fE nd w τ (zsI s0 0 37 (nI (ns + 1))) := fE_I hE0 (by omega)
    have hz1 : ∀ a, zA (zsI s0 0 37 (nI (ns + 1))) a nd = zA s0 a nd := fun a => zA_I ..
    revert hV1 hE1 hz1
    generalize zsI s0 0 37 (nI (ns + 1)) = s1
    intro hV1 hE1 hz1
    -- behind the opening bracket: s2
    have h21 : zI (nxS x n tk.1 s1) 0 21 = 0 := (nxS_I (by omega)).trans hV1.2.2.1
    have h54 : zI (nxS x n tk.1 s1) 0 54 = nI w := (nxS_I (by omega)).trans hV1.2.2.2.2.2.2
    rw [isWellT h21, obd_s, if_neg (by decide), waitsR h54 (by omega), obd_s, wtS_54, nI_pred, nI_clamp (show w < 2 ^ 31 by omega), if_neg (ixN (show w < 1300 by omega) (by omega)), bnd_e]
    cases hcm : cm x n tk with
    | error e =>
      rw [hcm, xb_e] at her
      have he0 := cm_ne hn hcm b1.2.1
      have hpd := PD_nx (τ := s1) hcm hV1.2.2.1
      have hD1 := rD_nx (p := tk.1) (RV_rD hV1 b1.2.1 (by omega)) b1.2.1
      have hE2 : fE nd w τ (nxS x n tk.1 s1) := nxS_E hE1
      revert hpd hD1 h54 hE2 h21
      generalize nxS x n tk.1 s1 = s2
      intro h21 h54 hpd hD1 hE2
      have hE3 : fE nd w τ (zsA (wtS s2 w 3 (nI nd) (-1)) 32 w (nI p)) := fE_A (wtS_E hE2 (Nat.le_refl _)) (by omega)
      have hK3 : rK (zsA (wtS s2 w 3 (nI nd) (-1)) 32 w (nI p)) (-1) := by
        have := PD_K hpd
        unfold rK at this ⊢
        rw [zI_A, zL_A, wtS_I (by omega), wtS_L]
        exact this
      have h213 : zI (zsA (wtS s2 w 3 (nI nd) (-1)) 32 w (nI p)) 0 21 = 0 := by rw [zI_A, wtS_I (by omega)]; exact hpd.1
      rw [isSignF (sF50 h213 hK3 (by decide)), obd_s, if_pos rfl, obd_s, hK1]
      obtain ⟨m, rfl⟩ : ∃ g, m = g + 2 := ⟨m - 2, by omega⟩
      refine badF (v := w) (cl := 55) (K := -1) (w := w) (rD_le (b := 1100) ⟨srcR_fE hV.1.1 hE3, ?_, ?_⟩ (by omega)) (by rw [zI_A, wtS_54]) (by omega) h213 hK3 (by decide) ?_ he0 (fun r z hz => ?_)
      · obtain ⟨p, q1, q2⟩ := hD1.2.1; exact ⟨p, q1, by rw [zI_A, wtS_I (by omega)]; exact q2⟩
      · obtain ⟨d, q1, q2⟩ := hD1.2.2; exact ⟨d, q1, by rw [zI_A, wtS_I (by omega)]; exact q2⟩
      · rw [← stE_P hpd]
        unfold stE
        rw [zI_A, zI_A, wtS_I (by omega), wtS_I (by omega)]
      · have hfx := FO_in hz (by rw [zA_A, if_neg (by omega), wtS_t.1]; decide)
        exact her e r z rfl he0 ⟨hfx.1, hfx.2.1, fP_trans (fE_P hE3) hfx.2.2⟩
    | ok t2 =>
      rw [hcm, xb_k] at her hok h0
      have ht2 := sat_get (cm_ok (x := x) (n := n) (t := tk) (by omega) b1.2.1) hcm
      have hh2 := ht2.2
      have hq1 := ht2.1.1
      have hq2 := ht2.1.2.1
      have hV2 := RV_n hcm hV1
      have hE2 : fE nd w τ (nxS x n tk.1 s1) := nxS_E hE1
      have hz2 : ∀ a, zA (nxS x n tk.1 s1) a nd = zA s0 a nd := fun a => nxS_A.trans (hz1 a)
      revert hV2 hE2 hz2 h54 h21
      generalize nxS x n tk.1 s1 = s2
      intro h21 h54 hV2 hE2 hz2
      have hV4 : RV x n tc G L t2 c (ns + 1) (nd + 1) (w + 1) (zsA (wtS s2 w 3 (nI nd) (-1)) 32 w (nI p)) := RV_A (RV_wt hV2) (by omega)
      have hE4 : fE nd w τ (zsA (wtS s2 w 3 (nI nd) (-1)) 32 w (nI p)) := fE_A (wtS_E hE2 (Nat.le_refl _)) (by omega)
      have g29 : zA (zsA (wtS s2 w 3 (nI nd) (-1)) 32 w (nI p)) 29 w = 3 := by rw [zA_A, if_neg (by omega)]; exact wtS_t.1
      have g30 : zA (zsA (wtS s2 w 3 (nI nd) (-1)) 32 w (nI p)) 30 w = nI nd := by rw [zA_A, if_neg (by omega)]; exact wtS_t.2.1
      have g32 : zA (zsA (wtS s2 w 3 (nI nd) (-1)) 32 w (nI p)) 32 w = nI p := by rw [zA_A, if_pos ⟨rfl, rfl⟩]
      have g33 : zA (zsA (wtS s2 w 3 (nI nd) (-1)) 32 w (nI p)) 33 w = -1 := by rw [zA_A, if_neg (by omega)]; exact wtS_t.2.2.2.2
      have hz4 : ∀ a, a ≤ 21 → zA (zsA (wtS s2 w 3 (nI nd) (-1)) 32 w (nI p)) a nd = zA s0 a nd := fun a ha => by rw [zA_A, if_neg (by omega), wtS_A (by omega)]; exact hz2 a
      revert hV4 hE4 g29 g30 g32 g33 hz4
      generalize zsA (wtS s2 w 3 (nI nd) (-1)) 32 w (nI p) = s4
      intro hV4 hE4 g29 g30 g32 g33 hz4
      have hK4 := rT_K hV4.2.1
      -- the end of the call
      have fin : ∀ (r : fT) (k : Nat) (tk' : yTok) (c' nd' m' : Nat) (u : zSt) (i : Int32), (if t2.2.2.1 = 50 then Except.ok (fZ, 0, t2, c) else yParts x n R (n + 2) (ns + 1) t2 c) = .ok (r, k, tk', c') → RV x n tc G L tk' c' (ns + 1) nd' (w + 1) u → BD n tc tk' c' (ns + 1) nd' (w + 1) → fE nd w s4 u → nd + 1 ≤ nd' → (∀ a, a ≤ 21 → a ≠ 16 → a ≠ 20 → zA u a nd = zA s0 a nd) → zA u 20 nd = nI k → zA u 16 nd = i → rep u r (nd + 1) nd' i → tk'.2.2.1 = 50 → tk.2.1 < tk'.2.1 → n + 5 ≤ m' + 1 + tk'.2.1 → ∀ (Kx : Int32 → zSt → Option (Int32 × zSt)), (∀ u, (zI u 0 21 ≠ 0 ∨ zI u 0 54 = nI w) → wp (fX12_works_b2 N m' (nI nd) u) Q → wp (Kx (nI nd) u) Q) → wp (obd (fX12_endsCall N (nI nd) (nI p) u) (fun r z => Kx r z)) Q := by
        intro r k tk' c' nd' m' u i hres hVu hBu hEu hndu hzu h20 h16 hrep h50 hpl hm' Kx hKx
        rw [hres, xb_k] at hok her
        have hBl' := BD_le hBu hn
        have hBu' := hBu
        obtain ⟨d1, d2, d3, d4, d5, d6⟩ := hBu
        have hlt' := tk_ne d1 h50 (by decide)
        refine eCall hn hN hVu hBu' h50 (by omega) ((hzu 19 (by omega) (by omega) (by omega)).trans hz0.2.2.2.2.1) h20 hg hG hp ?_ ?_
        · intro em
          rw [if_pos em] at hok
          refine hKx _ (Or.inr (by rw [nxS_I (by omega), zI_I, if_pos ⟨rfl, rfl⟩])) ?_
          refine hok _ tk' c' nd nd' m' (zsI (zsI u 0 37 (nI ns)) 0 54 (nI w)) rfl (RV_54 (RV_37 hVu)) ⟨d1, d2, d3, by omega, d5, by omega⟩ (fE_trans hE4 (fE_I (fE_I hEu (by omega)) (by omega)) (Nat.le_refl _) (Nat.le_refl _)) (by omega) ?_ ?_ (by omega) h50 hpl hm'
          · refine rep_1 rfl (by decide) (by omega) ?_ ?_ ?_ (by omega) ?_ ?_ ?_
            · rw [zA_I, zA_I, hzu 15 (by omega) (by omega) (by omega)]; exact hz0.1
            · rw [zA_I, zA_I, hzu 19 (by omega) (by omega) (by omega), hz0.2.2.2.2.1]; exact (ofI g).symm
            · rw [zA_I, zA_I, h20]; exact (ofI k).symm
            · rw [zA_I, zA_I, h16]
              exact rep_frame _ _ _ _ (fun j hj => ⟨hj, fun a _ _ => by rw [zA_I, zA_I]⟩) hrep
            · rw [zA_I, zA_I, hzu 17 (by omega) (by omega) (by omega)]; exact hz0.2.2.1
            · rw [zA_I, zA_I, hzu 18 (by omega) (by omega) (by omega)]; exact hz0.2.2.2.1
          · rw [zA_I, zA_I, hzu 21 (by omega) (by omega) (by omega)]; exact hz0.2.2.2.2.2.2
        · intro em z hfx
          rw [if_neg em] at her
          have he0 : (6 : Int32) + 16 * nI p ≠ 0 := er_ne erK6 hp
          refine hKx _ (Or.inl (by rw [hfx.1]; exact he0)) ?_
          obtain ⟨m', rfl⟩ : ∃ g, m' = g + 1 := ⟨m' - 1, by omega⟩
          exact wkE (by rw [hfx.1]; exact he0) (fun r => her _ r z rfl he0 (FX_le (FX_tr hfx (fE_P (fE_trans hE4 hEu (Nat.le_refl _) (Nat.le_refl _)))) (by omega)))
      by_cases h50 : t2.2.2.1 = 50
      · rw [isSignT ((sB50 hV4.2.2.1 hK4).mpr h50), obd_s, if_neg (by decide)]
        have hf := fin fZ 0 t2 c (nd + 1) m s4 (-1) (if_pos h50) hV4 ⟨ht2.1, b2, b3, by omega, by omega, by omega⟩ fE_refl (Nat.le_refl _) (fun a h1 _ _ => hz4 a h1) ((hz4 20 (by omega)).trans hz0.2.2.2.2.2.1) ((hz4 16 (by omega)).trans hz0.2.1) (rep_e rfl) h50 (by omega) (by omega) Kc (fun u q1 q2 => hK2 nd u (by omega) q1 q2)
        obtain ⟨r, uu, e1, e2⟩ := hf
        refine ⟨r, uu, ?_, e2⟩
        rw [← e1]
        cases fX12_endsCall N (nI nd) (nI p) s4 with
        | none => rfl
        | some q => rfl
      · rw [isSignF (sF50 hV4.2.2.1 hK4 h50), obd_s, if_pos rfl, obd_s, hK1]
        rw [if_neg h50] at fin h0 her
        refine partsR hn hN hR hW (w := w) (d0 := nd) (p := p) (ns := ns + 1) (n + 2) t2 c (nd + 1) 0 16 nd m s4 hV4 ⟨ht2.1, b2, b3, by omega, by omega, by omega⟩ ⟨g29, g30, g32, (hz4 20 (by omega)).trans hz0.2.2.2.2.2.1, (hz4 16 (by omega)).trans hz0.2.1, by omega, by omega, Or.inl ⟨g33, rfl, rfl⟩⟩ (by omega) (fun q => h0 (by rw [q]; rfl)) ?_ ?_
        · intro r k tk' c' nd' m' u i hres hVu hBu hfS hndu h20 h16 hrep h50' hpl hm'
          refine fin r k tk' c' nd' m' u i hres hVu hBu ⟨hfS.1, fun a j q1 q2 => hfS.2.1 a j (by omega) (by omega) (by omega) (by omega) (by omega), hfS.2.2⟩ hndu ?_ (by rw [h20]; congr 1; omega) h16 hrep h50' (by omega) hm' (fun r z => fX12_works_b2 N m' r z) (fun u _ q => q)
          intro a q1 q2 q3
          rw [hfS.2.1 a nd (by omega) (by omega) (by omega) (by omega) (by omega)]
          exact hz4 a q1
        · intro e r u hres he0 hfx
          rw [hres, xb_e] at her
          exact her e r u rfl he0 ⟨hfx.1, hfx.2.1, fP_trans (fE_P hE4) hfx.2.2⟩
