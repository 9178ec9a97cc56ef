/-! THE REFERENCE'S READER: an E and the sign behind it, in an S -/
theorem SV_37 {x : Nat → Int32} {n tc : Nat} {G : gE} {L : lE} {tk : yTok} {c ns nd ns' : Nat} {τ : zSt} (h : SV x n tc G L tk c ns nd τ) : SV x n tc G L tk c ns' nd (zsI τ 0 37 (nI ns')) := by
  obtain ⟨h1, h2, h3, h4, h5, h6⟩ := h
  refine ⟨rS_fE (lo := 0) (w0 := 0) h1 (fE_I fE_refl (by omega)), ?_, ?_, ?_, ?_, ?_⟩
  · unfold rT; simp only [zI_I, zI_L, zI_R, zI_A, zI_B, zL_I, zL_L, zL_R, zL_A, zL_B, zA_I, zA_L, zA_R, zA_A, zA_B, zB_I, zB_L, zB_R, zB_A, zB_B, reduceIte, Nat.reduceEqDiff, Nat.reduceEqDiff, false_and, and_false, true_and, and_true, ne_eq, not_false_eq_true, not_true_eq_false]; exact h2
  all_goals simp only [zI_I, zI_L, zI_R, zI_A, zI_B, zL_I, zL_L, zL_R, zL_A, zL_B, zA_I, zA_L, zA_R, zA_A, zA_B, zB_I, zB_L, zB_R, zB_A, zB_B, reduceIte, Nat.reduceEqDiff, Nat.reduceEqDiff, false_and, and_false, true_and, and_true, ne_eq, not_false_eq_true, not_true_eq_false]; try assumption
theorem SV_36 {x : Nat → Int32} {n tc : Nat} {G : gE} {L : lE} {tk : yTok} {c ns nd c' : Nat} {τ : zSt} (h : SV x n tc G L tk c ns nd τ) : SV x n tc G L tk c' ns nd (zsI τ 0 36 (nI c')) := by
  obtain ⟨h1, h2, h3, h4, h5, h6⟩ := h
  refine ⟨rS_fE (lo := 0) (w0 := 0) h1 (fE_I fE_refl (by omega)), ?_, ?_, ?_, ?_, ?_⟩
  · unfold rT; simp only [zI_I, zI_L, zI_R, zI_A, zI_B, zL_I, zL_L, zL_R, zL_A, zL_B, zA_I, zA_L, zA_R, zA_A, zA_B, zB_I, zB_L, zB_R, zB_A, zB_B, reduceIte, Nat.reduceEqDiff, Nat.reduceEqDiff, false_and, and_false, true_and, and_true, ne_eq, not_false_eq_true, not_true_eq_false]; exact h2
  all_goals simp only [zI_I, zI_L, zI_R, zI_A, zI_B, zL_I, zL_L, zL_R, zL_A, zL_B, zA_I, zA_L, zA_R, zA_A, zA_B, zB_I, zB_L, zB_R, zB_A, zB_B, reduceIte, Nat.reduceEqDiff, Nat.reduceEqDiff, false_and, and_false, true_and, and_true, ne_eq, not_false_eq_true, not_true_eq_false]; try assumption
theorem SV_nd {x : Nat → Int32} {n tc : Nat} {G : gE} {L : lE} {tk : yTok} {c ns nd : Nat} {k : Int32} {τ : zSt} (h : SV x n tc G L tk c ns nd τ) : SV x n tc G L tk c ns (nd + 1) (ndS τ k nd) := by
  obtain ⟨h1, h2, h3, h4, h5, h6⟩ := h
  refine ⟨rS_fE (lo := nd) (w0 := 0) h1 (ndS_E fE_refl (Nat.le_refl _)), ?_, (ndS_I (by omega)).trans h3, (ndS_I (by omega)).trans h4, (ndS_I (by omega)).trans h5, ndS_38⟩
  unfold rT
  rw [ndS_I (by omega), ndS_I (by omega), ndS_I (by omega), ndS_L]
  exact h2
theorem SV_A {x : Nat → Int32} {n tc : Nat} {G : gE} {L : lE} {tk : yTok} {c ns nd a i : Nat} {v : Int32} {τ : zSt} (h : SV x n tc G L tk c ns nd τ) (ha : 15 ≤ a ∧ a ≤ 33) : SV x n tc G L tk c ns nd (zsA τ a i v) := by
  obtain ⟨⟨⟨h1, h1b, h1c⟩, a1, a2, a3, a4, a5⟩, h2⟩ := h
  refine ⟨⟨⟨h1, h1b, fun j hj => ?_⟩, a1, a2, fun g hg => ?_, a4, fun j hj => ?_⟩, h2⟩
  · rw [zA_A, if_neg (by omega)]; exact h1c j hj
  · rw [zB_A, zA_A, if_neg (by omega), zA_A, if_neg (by omega), zA_A, if_neg (by omega)]; exact a3 g hg
  · rw [zB_A, zA_A, if_neg (by omega)]; exact a5 j hj
theorem SV_n {x : Nat → Int32} {n tc : Nat} {G : gE} {L : lE} {tk t1 : yTok} {c ns nd : Nat} {τ : zSt} (h : cm x n tk = .ok t1) (hr : SV x n tc G L tk c ns nd τ) : SV x n tc G L t1 c ns nd (nxS x n tk.1 τ) := by
  rw [(cm_k h).1]
  exact ⟨rS_fE hr.1 (lo := 0) (w0 := 0) (nxS_E fE_refl), rT_nx, (nxS_I (by omega)).trans hr.2.2.1, (nxS_I (by omega)).trans hr.2.2.2.1, (nxS_I (by omega)).trans hr.2.2.2.2.1, (nxS_I (by omega)).trans hr.2.2.2.2.2⟩
theorem nextS {x : Nat → Int32} {n tc N : Nat} {G : gE} {L : lE} {tk : yTok} {c ns nd : Nat} {τ : zSt} (hr : SV x n tc G L tk c ns nd τ) (ht : tk.1 ≤ n) (hN : n + 20 ≤ N) : fX12_next N τ = some ((), nxS x n tk.1 τ) := nx_eq hr.1.1 hr.2.1.1 ht hN
theorem SV_rD {x : Nat → Int32} {n tc : Nat} {G : gE} {L : lE} {tk : yTok} {c ns nd : Nat} {τ : zSt} (h : SV x n tc G L tk c ns nd τ) (ht : tk.1 ≤ n) (hd : nd ≤ 1100) : rD x n 1100 τ := ⟨h.1.1, ⟨tk.1, ht, h.2.1.1⟩, nd, hd, h.2.2.2.2.2⟩
/-- expression() where a token that is none has been come to -/
theorem exprP {x : Nat → Int32} {n N : Nat} {e cl s : Int32} {τ : zSt} (hN : 5000 ≤ N) (hpd : PD e τ) (hr : rD x n 1200 τ) (he : e ≠ 0) : wp (fX12_expression N s τ) (fun _ u => EE x n e cl τ u) := by
  have h54 : zI (zsI τ 0 54 (0 : Int32)) 0 54 = nI 0 := by simp only [zI_I, zI_L, zI_R, zI_A, zI_B, zL_I, zL_L, zL_R, zL_A, zL_B, zA_I, zA_L, zA_R, zA_A, zA_B, zB_I, zB_L, zB_R, zB_A, zB_B, reduceIte, Nat.reduceEqDiff, Nat.reduceEqDiff, false_and, and_false, true_and, and_true, ne_eq, not_false_eq_true, not_true_eq_false]; rfl
  unfold fX12_expression fX12_works
  rw [bnd_e, waitsR h54 (by omega), obd_s, bnd_e]
  have hP : fP τ (wtS (zsI τ 0 54 (0 : Int32)) 0 0 (-1) s) := wtS_P (fP_I fP_refl (by omega))
  have hI : ∀ j, j ≠ 54 → zI (wtS (zsI τ 0 54 (0 : Int32)) 0 0 (-1) s) 0 j = zI τ 0 j := fun j hj => by rw [wtS_I hj, zI_I, if_neg (by omega)]
  have hL : zL (wtS (zsI τ 0 54 (0 : Int32)) 0 0 (-1) s) 0 20 = zL τ 0 20 := by rw [wtS_L, zL_I]
  have h542 : zI (wtS (zsI τ 0 54 (0 : Int32)) 0 0 (-1) s) 0 54 = nI (0 + 1) := wtS_54
  revert hP hI hL h542
  generalize wtS (zsI τ 0 54 (0 : Int32)) 0 0 (-1) s = u
  intro hP hI hL h542
  refine wp_obd ?_
  obtain ⟨N', hN'⟩ : ∃ g, N = g + 2 := ⟨N - 2, by omega⟩
  obtain ⟨r1, ⟨p, r2, r3⟩, d, r4, r5⟩ := hr
  have hK := PD_K hpd
  have key : wp (fX12_works_b2 N (N' + 2) (-1) u) (fun r u => wp (some (r, u)) (fun _ u => EE x n e cl τ u)) := by
    refine badF (x := x) (n := n) (v := 0) (cl := cl) (K := -1) (w := 0) (e := e) ⟨srcR_fP r1 hP, ⟨p, r2, (hI 17 (by omega)).trans r3⟩, d, r4, (hI 38 (by omega)).trans r5⟩ h542 (by omega) ((hI 21 (by omega)).trans hpd.1) ?_ (by decide) ?_ he (fun r z hz => ?_)
    · unfold rK at hK ⊢
      rw [hI 19 (by omega), hL]
      exact hK
    · rw [← stE_P hpd]
      unfold stE
      rw [hI 19 (by omega), hI 18 (by omega)]
    · rcases hz with ⟨q1, q2, q3⟩ | ⟨q1, q2, q3, q4, q5, q6⟩
      · exact wp_s (Or.inl ⟨q1, q2, fP_trans hP q3⟩)
      · exact wp_s (Or.inr ⟨q2, q3, fP_trans hP q4, q5, q6⟩)
  rw [← hN'] at key
  exact key
/-- what an E whose node goes to (ar, d0) leaves as it was -/
def fX1 (nd d0 ar : Nat) (τ u : zSt) : Prop := (∀ j, ¬ (j = 17 ∨ j = 18 ∨ j = 19 ∨ j = 21 ∨ j = 36 ∨ j = 37 ∨ j = 38 ∨ j = 54) → zI u 0 j = zI τ 0 j) ∧
  (∀ a i, ¬ (15 ≤ a ∧ a ≤ 21 ∧ nd ≤ i) → ¬ (29 ≤ a ∧ a ≤ 33) → ¬ (a = ar ∧ i = d0) → zA u a i = zA τ a i) ∧ (∀ a i, zB u a i = zB τ a i)
theorem fX1_E {nd d0 ar lo : Nat} {τ u : zSt} (h : fX1 nd d0 ar τ u) (har : 15 ≤ ar ∧ ar ≤ 21) (h1 : lo ≤ d0) (h2 : lo ≤ nd) : fE lo 0 τ u := ⟨h.1, fun a i q1 q2 => h.2.1 a i (by omega) (by omega) (by omega), h.2.2⟩
theorem exT {x : Nat → Int32} {n tc : Nat} {G : gE} {L : lE} {N : Nat} {tk : yTok} {c ns nd d0 ar : Nat} {cl s : Int32} {τ : zSt} {Q : Int32 → zSt → Prop} {K : zSt → Option (Int32 × zSt)} (hn : n ≤ 512) (hN : 5000 ≤ N) (hG : G.2.2.2.2 ≤ 1400) (hLn : L.2.2 ≤ 1400) (hcl : cl = 56 ∨ cl = 50 ∨ cl = 54) (hs : s = sgC cl) (har : ar = 16 ∨ ar = 17) (hV : SV x n tc G L tk c ns nd τ) (hB : BD n tc tk c ns nd 0) (hd : d0 < nd) (h0 : yE x n tc G L 42 ns cl tk c ≠ .error 0)
    (hok : ∀ t tk' c' i nd' u, yE x n tc G L 42 ns cl tk c = .ok (t, tk', c') → SV x n tc G L tk' c' ns nd' u → BD n tc tk' c' ns nd' 0 → fX1 nd d0 ar τ u → nd ≤ nd' → zA u ar d0 = nI i → rep u t nd nd' (nI i) → i < 4200 → rng nd nd' i → tk'.2.2.1 = cl → tk.2.1 < tk'.2.1 → wp (K (nxS x n tk'.1 u)) Q)
    (her : ∀ e u, yE x n tc G L 42 ns cl tk c = .error e → e ≠ 0 → FXb x n 1200 e τ u → wp (K u) Q) :
    wp (obd (fX12_expression N s τ) (fun r u => if nI d0 < 0 ∨ 4200 ≤ (nI d0).toNatClampNeg then none else bnd (zsA u ar (nI d0).toNatClampNeg r) (fun u2 => obd (fX12_takes N s u2) (fun _ u3 => K u3)))) Q := by
  have hBl := BD_le hB hn
  refine wp_obd (wp_mono (exprR hn hN hG hLn hcl hs hV hB h0) (fun r u hq => ?_))
  rw [nI_clamp (by omega), if_neg (ixN (show d0 < 4200 by omega) (by omega)), bnd_e]
  subst hs
  cases hres : yE x n tc G L 42 ns cl tk c with
  | error e =>
    obtain ⟨he0, hee⟩ := hq.1 e hres
    obtain ⟨z, z1, z2⟩ := EE_takes (N := N) (EE_A (a := ar) (i := d0) (v := r) hee (by omega)) he0
    rw [z1, obd_s]
    exact her e z hres he0 z2
  | ok v =>
    obtain ⟨i, nd', rfl, hVu, hBu, hEu, hndu, hrep, h21i, hi, hri, hEnd, hpl⟩ := hq.2 v.1 v.2.1 v.2.2 hres
    have hk : v.2.1.2.2.1 = cl := by
      rcases hcl with rfl | rfl | rfl
      · exact yEnds_56 hEnd
      · exact yEnds_50 hEnd
      · exact yEnds_54 hEnd
    have hBlu := BD_le hBu hn
    have hVz : SV x n tc G L v.2.1 v.2.2 ns nd' (zsA u ar d0 (nI i)) := SV_A hVu (by omega)
    have hKz := rT_K hVz.2.1
    have hsg : sgB (zsA u ar d0 (nI i)) (sgC cl) = true := by
      rcases hcl with rfl | rfl | rfl
      · exact (sB56 hVz.2.2.1 hKz).mpr hk
      · exact (sB50 hVz.2.2.1 hKz).mpr hk
      · exact (sB54 hVz.2.2.1 hKz).mpr hk
    rw [takesR_yes hsg, nextS hVz hBlu.2.2.2 (by omega), obd_s]
    refine hok v.1 v.2.1 v.2.2 i nd' _ hres hVz hBu ⟨hEu.1, fun a j q1 q2 q3 => ?_, hEu.2.2⟩ hndu ?_ ?_ hi hri hk hpl
    · rw [zA_A, if_neg q3]; exact hEu.2.1 a j q1 (by omega)
    · rw [zA_A, if_pos ⟨rfl, rfl⟩]
    · refine rep_frame _ _ _ _ (fun j hj => ⟨hj, fun a _ _ => ?_⟩) hrep
      rw [zA_A, if_neg (by have := hj.1; omega)]
theorem exC {x : Nat → Int32} {n tc : Nat} {G : gE} {L : lE} {N : Nat} {tk : yTok} {c ns nd d0 ar : Nat} {cl s : Int32} {τ : zSt} {Q : Int32 → zSt → Prop} {K : zSt → Option (Int32 × zSt)} (hn : n ≤ 512) (hN : 5000 ≤ N) (hG : G.2.2.2.2 ≤ 1400) (hLn : L.2.2 ≤ 1400) (hcl : cl = 56 ∨ cl = 50 ∨ cl = 54) (hs : s = sgC cl) (har : ar = 16 ∨ ar = 17) (hV : SV x n tc G L tk c (ns + 1) nd τ) (hB : BD n tc tk c (ns + 1) nd 0) (hd : d0 < nd) (h0 : yE x n tc G L 42 (ns + 1) cl tk c ≠ .error 0)
    (hok : ∀ t tk' c' i nd' u, yE x n tc G L 42 (ns + 1) cl tk c = .ok (t, tk', c') → SV x n tc G L tk' c' ns nd' u → BD n tc tk' c' ns nd' 0 → fX1 nd d0 ar τ u → nd ≤ nd' → zA u ar d0 = nI i → rep u t nd nd' (nI i) → i < 4200 → rng nd nd' i → tk'.2.2.1 = cl → tk.2.1 < tk'.2.1 → wp (K (nxS x n tk'.1 u)) Q)
    (her : ∀ e u, yE x n tc G L 42 (ns + 1) cl tk c = .error e → e ≠ 0 → FXb x n 1200 e τ u → wp (K u) Q) :
    wp (obd (fX12_expression N s τ) (fun r u => if nI d0 < 0 ∨ 4200 ≤ (nI d0).toNatClampNeg then none else bnd (zsA u ar (nI d0).toNatClampNeg r) (fun u2 => obd (fX12_closes N s u2) (fun _ u3 => K u3)))) Q := by
  have hcc : ∀ u2, obd (fX12_closes N s u2) (fun _ u3 => K u3) = obd (fX12_takes N s u2) (fun _ u3 => K (zsI u3 0 37 (zI u3 0 37 - 1))) := by
    intro u2
    unfold fX12_closes
    cases fX12_takes N s u2 with
    | none => rfl
    | some q => rfl
  simp only [hcc]
  refine exT (K := fun u3 => K (zsI u3 0 37 (zI u3 0 37 - 1))) hn hN hG hLn hcl hs har hV hB hd h0 ?_ ?_
  · intro t tk' c' i nd' u hres hVu hBu hf hndu hslot hrep hi hri hk hpl
    have e1 : zsI (nxS x n tk'.1 u) 0 37 (zI (nxS x n tk'.1 u) 0 37 - 1) = nxS x n tk'.1 (zsI u 0 37 (nI ns)) := by
      rw [nxS_I (by omega), hVu.2.2.2.2.1, nI_pred, nxS_sw (by omega)]
    rw [e1]
    refine hok t tk' c' i nd' (zsI u 0 37 (nI ns)) hres (SV_37 hVu) ⟨hBu.1, hBu.2.1, hBu.2.2.1, by have := hBu.2.2.2.1; omega, hBu.2.2.2.2.1, hBu.2.2.2.2.2⟩ ⟨fun j hj => ?_, fun a j q1 q2 q3 => (zA_I ..).trans (hf.2.1 a j q1 q2 q3), hf.2.2⟩ hndu ((zA_I ..).trans hslot) ?_ hi hri hk hpl
    · rw [zI_I, if_neg (by omega)]; exact hf.1 j hj
    · exact rep_frame _ _ _ _ (fun j hj => ⟨hj, fun a _ _ => zA_I ..⟩) hrep
  · intro e u hres he0 hfx
    exact her e _ hres he0 (FX_I hfx (by omega))
/-- what comes of an S without others in it -/
def LQ (x : Nat → Int32) (n tc : Nat) (G : gE) (L : lE) (tk : yTok) (ns nd ms : Nat) (τ : zSt) (res : Except Int32 (fT × yTok × Nat × Nat)) (r : Int32) (u : zSt) : Prop :=
  (∀ e, res = .error e → e ≠ 0 ∧ (FX x n e τ u ∨ (PD e u ∧ rD x n 1200 u ∧ fE nd 0 τ u ∧ ∃ i, i < 4200 ∧ r = nI i))) ∧
  (∀ t tk' c' ms', res = .ok (t, tk', c', ms') → ms' = ms ∧ ∃ i nd', r = nI i ∧ SV x n tc G L tk' c' ns nd' u ∧ BD n tc tk' c' ns nd' 0 ∧ fE nd 0 τ u ∧ nd ≤ nd' ∧ rep u t nd nd' (nI i) ∧ zA u 21 i = -1 ∧ i < 4200 ∧ rng nd nd' i ∧ tk.2.1 < tk'.2.1)
theorem LQ_e {x : Nat → Int32} {n tc : Nat} {G : gE} {L : lE} {tk : yTok} {ns nd ms b : Nat} {τ u : zSt} {res : Except Int32 (fT × yTok × Nat × Nat)} {r : Int32} {e : Int32} (h : res = .error e) (he : e ≠ 0) (hf : FXb x n b e τ u) (hb : b ≤ 1200) : LQ x n tc G L tk ns nd ms τ res r u := by
  refine ⟨fun e2 h2 => ?_, fun t tk' c' ms' h2 => ?_⟩
  · rw [h] at h2; cases h2; exact ⟨he, Or.inl (FX_le hf hb)⟩
  · rw [h] at h2; cases h2
/-- its last token has been taken -/
theorem LQ_n {x : Nat → Int32} {n tc : Nat} {G : gE} {L : lE} {tk tk' : yTok} {c' ns nd nd' ms i : Nat} {τ u : zSt} {t : fT} {res : Except Int32 (fT × yTok × Nat × Nat)} (hn : n ≤ 512) (h : res = xb (cm x n tk') (fun t3 => .ok (t, t3, c', ms))) (hV : SV x n tc G L tk' c' ns nd' u) (hB : BD n tc tk' c' ns nd' 0) (hk : tk'.2.2.1 ≠ 58) (hE : fE nd 0 τ u) (hnd : nd ≤ nd') (hr : rep u t nd nd' (nI i)) (h21 : zA u 21 i = -1) (hi : i < 4200) (hri : rng nd nd' i) (hpl : tk.2.1 ≤ tk'.2.1) : LQ x n tc G L tk ns nd ms τ res (nI i) (nxS x n tk'.1 u) := by
  have hBl := BD_le hB hn
  obtain ⟨b1, b2, b3, b4, b5, b6⟩ := hB
  have hlt := tk_ne b1 rfl hk
  refine ⟨fun e he => ?_, fun t2 tk2 c2 ms2 h2 => ?_⟩
  · rw [h] at he
    cases hcm : cm x n tk' with
    | error e' =>
      rw [hcm, xb_e] at he
      cases he
      exact ⟨cm_ne hn hcm b1.2.1, Or.inr ⟨PD_nx hcm hV.2.2.1, rD_le (rD_nx (SV_rD hV b1.2.1 (by omega)) b1.2.1) (by omega), nxS_E hE, i, hi, rfl⟩⟩
    | ok t3 => rw [hcm, xb_k] at he; cases he
  · rw [h] at h2
    cases hcm : cm x n tk' with
    | error e' => rw [hcm, xb_e] at h2; cases h2
    | ok t3 =>
      rw [hcm, xb_k] at h2
      cases h2
      have ht3 := sat_get (cm_ok (x := x) (n := n) (t := tk') (by omega) b1.2.1) hcm
      have hh3 := ht3.2
      refine ⟨rfl, i, nd', rfl, SV_n hcm hV, ⟨ht3.1, b2, b3, b4, by omega, by omega⟩, nxS_E hE, hnd, ?_, nxS_A.trans h21, hi, hri, by omega⟩
      exact rep_frame _ _ _ _ (fun j hj => ⟨hj, fun a _ _ => nxS_A⟩) hr
