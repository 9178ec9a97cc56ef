/-! THE REFERENCE'S READER: parameters -/
/-- names and addresses of the program so far, as they stand in the reference -/
def rGt (x : Nat → Int32) (n tc : Nat) (G : gE) (τ : zSt) : Prop := srcR x n τ ∧ zI τ 0 3 = nI tc ∧ (∀ g, g < G.2.2.2.2 → zB τ 7 g = G.1 g ∧ zA τ 8 g = G.2.1 g ∧ zA τ 10 g = G.2.2.2.1 g ∧ (G.2.1 g ≠ 2 → zA τ 9 g = G.2.2.1 g))
/-- while parameters of a FUNCTION w0 are read -/
def PR (x : Nat → Int32) (n tc : Nat) (G : gE) (w0 : Int64) (L : lE) (tk : yTok) (c ns nd : Nat) (τ : zSt) : Prop := rGt x n tc G τ ∧ rT tk τ ∧ zI τ 0 21 = 0 ∧ zI τ 0 36 = nI c ∧ zI τ 0 37 = nI ns ∧ zI τ 0 38 = nI nd ∧ zI τ 0 30 = nI L.2.2 ∧ (∀ j, j < L.2.2 → zB τ 13 j = L.1 j) ∧ zI τ 0 34 = 0 ∧ zI τ 0 35 = nI G.2.2.2.2 ∧ zI τ 0 22 = nI (G.2.2.2.2 + 1) ∧ zB τ 7 G.2.2.2.2 = w0 ∧ zA τ 8 G.2.2.2.2 = 2 ∧ zA τ 10 G.2.2.2.2 = nI L.2.2 ∧ zA τ 12 G.2.2.2.2 = 0
/-- what the parameters leave as it was -/
def fQ (fn : Nat) (τ u : zSt) : Prop := (∀ j, ¬ (j = 17 ∨ j = 18 ∨ j = 19 ∨ j = 21 ∨ j = 30 ∨ j = 37) → zI u 0 j = zI τ 0 j) ∧ (∀ a i, ¬ (a = 10 ∧ i = fn) → ¬ (a = 14) → zA u a i = zA τ a i) ∧ (∀ a i, a ≠ 13 → zB u a i = zB τ a i)
theorem fQ_refl {fn : Nat} {τ : zSt} : fQ fn τ τ := ⟨fun _ _ => rfl, fun _ _ _ _ => rfl, fun _ _ _ => rfl⟩
theorem fQ_trans {fn : Nat} {τ u v : zSt} (h : fQ fn τ u) (h2 : fQ fn u v) : fQ fn τ v := ⟨fun j hj => (h2.1 j hj).trans (h.1 j hj), fun a i q1 q2 => (h2.2.1 a i q1 q2).trans (h.2.1 a i q1 q2), fun a i q => (h2.2.2 a i q).trans (h.2.2 a i q)⟩
theorem fQ_P {fn : Nat} {τ u : zSt} (h : fQ fn τ u) : fP τ u := ⟨fun j hj => h.1 j (by omega), fun a i ha => h.2.1 a i (by omega) (by omega)⟩
theorem fQ_nx {fn n p : Nat} {x : Nat → Int32} {τ u : zSt} (h : fQ fn τ u) : fQ fn τ (nxS x n p u) := ⟨fun j hj => (nxS_I (by omega)).trans (h.1 j hj), fun a i q1 q2 => nxS_A.trans (h.2.1 a i q1 q2), fun a i q => nxS_B.trans (h.2.2 a i q)⟩
/-- one parameter has been told: its name, one more -/
def paS (τ : zSt) (l fn : Nat) (w : Int64) : zSt := zsA (zsI (zsB τ 13 l w) 0 30 (nI (l + 1))) 10 fn (nI (l + 1))
theorem fQ_pa {l fn : Nat} {w : Int64} {τ u : zSt} (h : fQ fn τ u) : fQ fn τ (paS u l fn w) := by
  unfold paS
  refine ⟨fun j hj => ?_, fun a i q1 q2 => ?_, fun a i q => ?_⟩
  · rw [zI_A, zI_I, if_neg (by omega), zI_B]; exact h.1 j hj
  · rw [zA_A, if_neg q1, zA_I, zA_B]; exact h.2.1 a i q1 q2
  · rw [zB_A, zB_I, zB_B, if_neg (by omega)]; exact h.2.2 a i q
theorem PR_n {x : Nat → Int32} {n tc : Nat} {G : gE} {w0 : Int64} {L : lE} {tk t1 : yTok} {c ns nd : Nat} {τ : zSt} (hc : cm x n tk = .ok t1) (h : PR x n tc G w0 L tk c ns nd τ) : PR x n tc G w0 L t1 c ns nd (nxS x n tk.1 τ) := by
  obtain ⟨⟨⟨s1, s2, s3⟩, g1, g3⟩, t1', h1, h2, h3, h4, h5, h6, h7, h8, h9, h10, h11, h12, h13⟩ := h
  have hf : ∀ j, ¬ (j = 17 ∨ j = 18 ∨ j = 19) → zI (nxS x n tk.1 τ) 0 j = zI τ 0 j := fun j hj => nxS_I hj
  refine ⟨⟨⟨(hf 16 (by omega)).trans s1, s2, fun j hj => nxS_A.trans (s3 j hj)⟩, (hf 3 (by omega)).trans g1, fun g hg => ?_⟩, by rw [(cm_k hc).1]; exact rT_nx, (hf 21 (by omega)).trans h1, (hf 36 (by omega)).trans h2, (hf 37 (by omega)).trans h3, (hf 38 (by omega)).trans h4, (hf 30 (by omega)).trans h5, fun j hj => nxS_B.trans (h6 j hj), (hf 34 (by omega)).trans h7, (hf 35 (by omega)).trans h8, (hf 22 (by omega)).trans h9, nxS_B.trans h10, nxS_A.trans h11, nxS_A.trans h12, nxS_A.trans h13⟩
  rw [nxS_B, nxS_A, nxS_A, nxS_A]
  exact g3 g hg
theorem PR_rD {x : Nat → Int32} {n tc : Nat} {G : gE} {w0 : Int64} {L : lE} {tk : yTok} {c ns nd : Nat} {τ : zSt} (h : PR x n tc G w0 L tk c ns nd τ) (ht : tk.1 ≤ n) (hd : nd ≤ 1100) : rD x n 1100 τ := ⟨h.1.1, ⟨tk.1, ht, h.2.1.1⟩, nd, hd, h.2.2.2.2.2.1⟩
theorem PR_pa {x : Nat → Int32} {n tc : Nat} {G : gE} {w0 w : Int64} {p : Int32} {L : lE} {tk : yTok} {c ns nd : Nat} {τ : zSt} (h : PR x n tc G w0 L tk c ns nd τ) : PR x n tc G w0 (lAdd L w p) tk c ns nd (paS τ L.2.2 G.2.2.2.2 w) := by
  obtain ⟨⟨⟨s1, s2, s3⟩, g1, g3⟩, t1, h1, h2, h3, h4, h5, h6, h7, h8, h9, h10, h11, h12, h13⟩ := h
  have hI : ∀ j, j ≠ 30 → zI (paS τ L.2.2 G.2.2.2.2 w) 0 j = zI τ 0 j := fun j hj => by unfold paS; rw [zI_A, zI_I, if_neg (by omega), zI_B]
  have hA : ∀ a i, ¬ (a = 10 ∧ i = G.2.2.2.2) → zA (paS τ L.2.2 G.2.2.2.2 w) a i = zA τ a i := fun a i q => by unfold paS; rw [zA_A, if_neg q, zA_I, zA_B]
  have hB : ∀ a i, a ≠ 13 → zB (paS τ L.2.2 G.2.2.2.2 w) a i = zB τ a i := fun a i q => by unfold paS; rw [zB_A, zB_I, zB_B, if_neg (by omega)]
  refine ⟨⟨⟨(hI 16 (by omega)).trans s1, s2, fun j hj => (hA 6 j (by omega)).trans (s3 j hj)⟩, (hI 3 (by omega)).trans g1, fun g hg => ?_⟩, ?_, (hI 21 (by omega)).trans h1, (hI 36 (by omega)).trans h2, (hI 37 (by omega)).trans h3, (hI 38 (by omega)).trans h4, ?_, fun j hj => ?_, (hI 34 (by omega)).trans h7, (hI 35 (by omega)).trans h8, (hI 22 (by omega)).trans h9, (hB 7 _ (by omega)).trans h10, (hA 8 _ (by omega)).trans h11, ?_, (hA 12 _ (by omega)).trans h13⟩
  · rw [hB 7 g (by omega), hA 8 g (by omega), hA 10 g (by omega), hA 9 g (by omega)]; exact g3 g hg
  · unfold rT
    rw [hI 17 (by omega), hI 18 (by omega), hI 19 (by omega)]
    exact t1
  · unfold paS; rw [zI_A, zI_I, if_pos ⟨rfl, rfl⟩]; rfl
  · have hj2 : j < L.2.2 + 1 := hj
    have e : zB (paS τ L.2.2 G.2.2.2.2 w) 13 j = if j = L.2.2 then w else zB τ 13 j := by
      unfold paS
      rw [zB_A, zB_I, zB_B]
      simp
    rw [e]
    by_cases q : j = L.2.2
    · rw [if_pos q]; exact (if_pos q).symm
    · rw [if_neg q]; exact (h6 j (by omega)).trans (if_neg q).symm
  · unfold paS; rw [zA_A, if_pos ⟨rfl, rfl⟩]; rfl
def yPar (x : Nat → Int32) (n : Nat) (L : lE) (tk : yTok) : Except Int32 (Int64 × yTok) := xb (need 42 tk) (fun _ => xb (cm x n tk) (fun t1 => xb (need 40 t1) (fun _ =>
      if (lkN L.1 t1.2.2.2 L.2.2).isSome = true then er 4 t1.2.1 else if 8 ≤ L.2.2 then er 6 t1.2.1 else xb (cm x n t1) (fun t2 => .ok (t1.2.2.2, t2)))))
/-- what comes of a parameter -/
def PQ (x : Nat → Int32) (n tc : Nat) (G : gE) (w0 : Int64) (L : lE) (tk : yTok) (c ns nd : Nat) (τ : zSt) (res : Except Int32 (Int64 × yTok)) (u : zSt) : Prop :=
  (∀ e, res = .error e → e ≠ 0 ∧ (zI u 0 21 = e ∨ PD e u) ∧ rD x n 1200 u ∧ fQ G.2.2.2.2 τ u ∧ ∃ l, l ≤ 8 ∧ zI u 0 30 = nI l) ∧
  (∀ w tk', res = .ok (w, tk') → PR x n tc G w0 (lAdd L w 0) tk' c ns nd u ∧ fQ G.2.2.2.2 τ u ∧ tkO n tk' ∧ tk.2.1 < tk'.2.1)
theorem parR {x : Nat → Int32} {n tc : Nat} {G : gE} {w0 : Int64} {L : lE} {N : Nat} {tk : yTok} {c ns nd : Nat} {τ : zSt} (hn : n ≤ 512) (hN : 5000 ≤ N) (hG : G.2.2.2.2 < 1400) (hV : PR x n tc G w0 L tk c ns nd τ) (htk : tkO n tk) (hnd : nd ≤ 1100) (hL : L.2.2 ≤ 8) : wp (fX12_parameter N τ) (fun _ u => PQ x n tc G w0 L tk c ns nd τ (yPar x n L tk) u) := by
  have hpn : tk.2.1 ≤ n := by have := htk.1; have := htk.2.1; omega
  have hK := rT_K hV.2.1
  have hD := PR_rD hV htk.2.1 hnd
  have hQe : ∀ (e : Int32) (u : zSt), yPar x n L tk = .error e → e ≠ 0 → (zI u 0 21 = e ∨ PD e u) → rD x n 1200 u → fQ G.2.2.2.2 τ u → zI u 0 30 = nI L.2.2 → PQ x n tc G w0 L tk c ns nd τ (yPar x n L tk) u := by
    intro e u hres he0 h1 h2 h3 h4
    refine ⟨fun e2 h => ?_, fun w tk' h => ?_⟩
    · rw [hres] at h; cases h; exact ⟨he0, h1, h2, h3, L.2.2, hL, h4⟩
    · rw [hres] at h; cases h
  have hfl : ∀ (u : zSt) (e : Int32), fQ G.2.2.2.2 τ u → fQ G.2.2.2.2 τ (zsI u 0 21 e) := fun u e h => ⟨fun j hj => by rw [zI_I, if_neg (by omega)]; exact h.1 j hj, h.2.1, h.2.2⟩
  unfold fX12_parameter
  cases h42 : need 42 tk with
  | error e =>
    obtain ⟨ee, hk⟩ := need_ee h42
    have he0 := need_ne h42 (by omega)
    have hst : stE τ = e := by rw [ee]; exact stE_T hV.2.1 htk.2.2.2
    rw [isWordF (wF42 hV.2.2.1 hK hk), obd_s, if_pos rfl, strayR, stS_eq hV.2.2.1, hst, obd_s]
    exact wp_s (hQe e _ (by unfold yPar; rw [h42]; rfl) he0 (Or.inl (by rw [zI_I, if_pos ⟨rfl, rfl⟩])) (rD_le (rD_I hD (by omega)) (by omega)) (hfl _ _ fQ_refl) (by rw [zI_I, if_neg (by omega)]; exact hV.2.2.2.2.2.2.1))
  | ok y =>
    have hk := need_kk h42
    have hlt := tk_ne htk hk (by decide)
    rw [isWordT ((wB42 hV.2.2.1 hK).mpr hk), obd_s, if_neg (by decide), nx_eq hV.1.1 hV.2.1.1 htk.2.1 (by omega), obd_s]
    cases hcm : cm x n tk with
    | error e =>
      have he0 := cm_ne hn hcm htk.2.1
      have hpd := PD_nx (τ := τ) hcm hV.2.2.1
      rw [if_neg (by rw [hpd.2.1]; decide), strayR, stS_eq hpd.1, stE_P hpd, obd_s]
      exact wp_s (hQe e _ (by unfold yPar; rw [h42, xb_k, hcm]; rfl) he0 (Or.inl (by rw [zI_I, if_pos ⟨rfl, rfl⟩])) (rD_le (rD_I (rD_nx hD htk.2.1) (by omega)) (by omega)) (hfl _ _ (fQ_nx fQ_refl)) (by rw [zI_I, if_neg (by omega), nxS_I (by omega)]; exact hV.2.2.2.2.2.2.1))
    | ok t1 =>
      have ht1 := sat_get (cm_ok (x := x) (n := n) (t := tk) (by omega) htk.2.1) hcm
      have hh1 := ht1.2
      have hq1 := ht1.1.1
      have hq2 := ht1.1.2.1
      have hV1 := PR_n hcm hV
      have hf1 : fQ G.2.2.2.2 τ (nxS x n tk.1 τ) := fQ_nx fQ_refl
      revert hV1 hf1
      generalize nxS x n tk.1 τ = s1
      intro hV1 hf1
      have hK1 := rT_K hV1.2.1
      have hD1 := PR_rD hV1 hq2 hnd
      cases h40 : need 40 t1 with
      | error e =>
        obtain ⟨ee, hk1⟩ := need_ee h40
        have he0 := need_ne h40 (by omega)
        have hst : stE s1 = e := by rw [ee]; exact stE_T hV1.2.1 ht1.1.2.2.2
        rw [if_neg (fun q => hk1 ((kd40 hK1.1 hK1.2).mp q)), strayR, stS_eq hV1.2.2.1, hst, obd_s]
        exact wp_s (hQe e _ (by unfold yPar; rw [h42, xb_k, hcm, xb_k, h40]; rfl) he0 (Or.inl (by rw [zI_I, if_pos ⟨rfl, rfl⟩])) (rD_le (rD_I hD1 (by omega)) (by omega)) (hfl _ _ hf1) (by rw [zI_I, if_neg (by omega)]; exact hV1.2.2.2.2.2.2.1))
      | ok y2 =>
        have hk1 := need_kk h40
        have hloc : fX12_localOf N (zL s1 0 20) s1 = some (ixI (lkN L.1 t1.2.2.2 L.2.2), s1) := by
          unfold fX12_localOf
          rw [hV1.2.1.2.2.1, bnd_e, hV1.2.2.2.2.2.2.1]
          exact locR (by omega) (fun j hj => hV1.2.2.2.2.2.2.2.1 j hj) _ _ (Nat.le_refl _) (by omega)
        rw [if_pos ((kd40 hK1.1 hK1.2).mpr hk1), hloc, obd_s]
        have hyp : yPar x n L tk = if (lkN L.1 t1.2.2.2 L.2.2).isSome = true then er 4 t1.2.1 else if 8 ≤ L.2.2 then er 6 t1.2.1 else xb (cm x n t1) (fun t2 => .ok (t1.2.2.2, t2)) := by
          unfold yPar
          rw [h42, xb_k, hcm, xb_k, h40, xb_k]
        have hfail : ∀ (kk : Int32), erK kk → yPar x n L tk = er kk t1.2.1 → wp (obd (fX12_fails N kk (zI s1 0 18) s1) (fun _ u => fX12_parameter_b77 N u)) (fun _ u => PQ x n tc G w0 L tk c ns nd τ (yPar x n L tk) u) := by
          intro kk hkk hres
          have he0 : kk + 16 * nI t1.2.1 ≠ 0 := er_ne hkk (by omega)
          rw [failsR, flS_eq hV1.2.2.1, hV1.2.1.2.1, obd_s]
          unfold fX12_parameter_b77
          rw [isWellF (by rw [zI_I, if_pos ⟨rfl, rfl⟩]; exact he0), obd_s, if_pos rfl]
          exact wp_s (hQe _ _ hres he0 (Or.inl (by rw [zI_I, if_pos ⟨rfl, rfl⟩])) (rD_le (rD_I hD1 (by omega)) (by omega)) (hfl _ _ hf1) (by rw [zI_I, if_neg (by omega)]; exact hV1.2.2.2.2.2.2.1))
        cases hl : lkN L.1 t1.2.2.2 L.2.2 with
        | some j =>
          have hj := (lkN_lt hl).1
          rw [if_neg (show ¬ ixI (some j) < 0 from nI_pos (by omega))]
          exact hfail 4 erK4 (by rw [hyp, hl]; rfl)
        | none =>
          rw [if_pos (show ixI none < 0 by decide), hV1.2.2.2.2.2.2.2.2.2.1, nI_clamp (by omega), if_neg (ixN hG (by omega)), hV1.2.2.2.2.2.2.2.2.2.2.2.2.2.1]
          by_cases h8 : 8 ≤ L.2.2
          · rw [if_pos (show nI L.2.2 = 8 by rw [show L.2.2 = 8 by omega]; rfl)]
            exact hfail 6 erK6 (by rw [hyp, hl, if_neg (by decide), if_pos h8])
          · rw [if_neg (show ¬ nI L.2.2 = 8 from fun q => by have := (nI_eq (a := L.2.2) (b := 8) (by omega) (by omega)).mp q; omega)]
            unfold fX12_parameter_b77
            have e35 : zI (zsI (zsB s1 13 L.2.2 t1.2.2.2) 0 30 (nI (L.2.2 + 1))) 0 35 = nI G.2.2.2.2 := by rw [zI_I, if_neg (by omega), zI_B]; exact hV1.2.2.2.2.2.2.2.2.2.1
            have e10 : zA (zsI (zsB s1 13 L.2.2 t1.2.2.2) 0 30 (nI (L.2.2 + 1))) 10 G.2.2.2.2 = nI L.2.2 := by rw [zA_I, zA_B]; exact hV1.2.2.2.2.2.2.2.2.2.2.2.2.2.1
            rw [isWellT hV1.2.2.1, obd_s, if_neg (by decide), hV1.2.2.2.2.2.2.1, nI_clamp (by omega), if_neg (ixN (show L.2.2 < 1400 by omega) (by omega)), hV1.2.1.2.2.1, bnd_e, zI_B, hV1.2.2.2.2.2.2.1, bnd_e, nI_1, e35, nI_clamp (by omega), if_neg (ixN hG (by omega)), if_neg (ixN hG (by omega)), e10, bnd_e, nI_1]
            have hV2 : PR x n tc G w0 (lAdd L t1.2.2.2 0) t1 c ns nd (paS s1 L.2.2 G.2.2.2.2 t1.2.2.2) := PR_pa hV1
            have hf2 : fQ G.2.2.2.2 τ (paS s1 L.2.2 G.2.2.2.2 t1.2.2.2) := fQ_pa hf1
            show wp (obd (fX12_next N (paS s1 L.2.2 G.2.2.2.2 t1.2.2.2)) (fun _ σ13 => some ((), σ13))) _
            revert hV2 hf2
            generalize paS s1 L.2.2 G.2.2.2.2 t1.2.2.2 = s2
            intro hV2 hf2
            rw [nx_eq hV2.1.1 hV2.2.1.1 hq2 (by omega), obd_s]
            rw [hl, if_neg (by decide), if_neg h8] at hyp
            cases hcm1 : cm x n t1 with
            | error e =>
              rw [hcm1, xb_e] at hyp
              refine wp_s ⟨fun e2 h => ?_, fun w tk' h => (by rw [hyp] at h; cases h)⟩
              rw [hyp] at h
              cases h
              exact ⟨cm_ne hn hcm1 hq2, Or.inr (PD_nx hcm1 hV2.2.2.1), rD_le (rD_nx (PR_rD hV2 hq2 hnd) hq2) (by omega), fQ_nx hf2, L.2.2 + 1, by omega, (nxS_I (by omega)).trans hV2.2.2.2.2.2.2.1⟩
            | ok t2 =>
              rw [hcm1, xb_k] at hyp
              have ht2 := sat_get (cm_ok (x := x) (n := n) (t := t1) (by omega) hq2) hcm1
              have hh2 := ht2.2
              refine wp_s ⟨fun e2 h => (by rw [hyp] at h; cases h), fun w tk' h => ?_⟩
              rw [hyp] at h
              cases h
              exact ⟨PR_n hcm1 hV2, fQ_nx hf2, ht2.1, by omega⟩
