/-! THE REFERENCE'S READER: a FUNCTION from the end of its parameters on -/
def yFB (x : Nat → Int32) (n tc : Nat) (G : gE) (L : lE) (tk : yTok) (c : Nat) : Except Int32 (fT × yTok × Nat × Nat) := xb (cm x n tk) (fun t5 => xb (need 51 t5) (fun _ => yBlock x n tc G (yS x n tc G 42) 0 L 0 0 t5 c))
/-- what comes of a FUNCTION -/
def FQ (x : Nat → Int32) (n tc : Nat) (G G' : gE) (L : lE) (tk : yTok) (nd : Nat) (u : zSt) (res : Except Int32 (fT × yTok × Nat × Nat)) (z : zSt) : Prop :=
  (∀ e, res = .error e → e ≠ 0 ∧ (zI z 0 21 = e ∨ PD e z) ∧ rD x n 1200 z ∧ fP u z) ∧
  (∀ r tk' c' ms, res = .ok (r, tk', c', ms) → ∃ nd', SV x n tc G' L tk' c' 0 nd' z ∧ BD n tc tk' c' 0 nd' 0 ∧ nd + 1 ≤ nd' ∧ zA z 11 G.2.2.2.2 = nI nd ∧ zA z 12 G.2.2.2.2 = nI ms ∧ rep z (fN 20 0 0 r fZ fZ) nd nd' (nI nd) ∧ tk.2.1 < tk'.2.1 ∧ ms ≤ tk'.2.1 ∧ zI z 0 29 = zI u 0 29 ∧ (∀ a i, 15 ≤ a → a ≤ 21 → i < nd → zA z a i = zA u a i) ∧ (∀ i, i < G.2.2.2.2 → zA z 11 i = zA u 11 i ∧ zA z 12 i = zA u 12 i) ∧ fP u z)
theorem b125R {x : Nat → Int32} {n tc : Nat} {G : gE} {w0 : Int64} {a : Int32} {L : lE} {N : Nat} {tk : yTok} {c nd : Nat} {u : zSt} (hn : n ≤ 512) (hN : 5000 ≤ N) (hG : G.2.2.2.2 < 1400) (hV : PR x n tc G w0 L tk c 1 nd u) (hB : BD n tc tk c 1 nd 0) (hL : L.2.2 ≤ 8) (hLp : L.2.2 ≤ tk.2.1) (hk : tk.2.2.1 = 50) (h0 : yFB x n tc (gAdd G w0 2 a (nI L.2.2)) (lPlace L) tk c ≠ .error 0) :
    wp (fX12_tellFunction_b125 N u) (fun _ z => FQ x n tc G (gAdd G w0 2 a (nI L.2.2)) (lPlace L) tk nd u (yFB x n tc (gAdd G w0 2 a (nI L.2.2)) (lPlace L) tk c) z) := by
  have hBl := BD_le hB hn
  obtain ⟨b1, b2, b3, b4, b5, b6⟩ := hB
  have hlt := tk_ne b1 hk (by decide)
  have hpn : tk.2.1 ≤ n := by have := b1.1; have := b1.2.1; omega
  have hK := rT_K hV.2.1
  unfold fX12_tellFunction_b125
  rw [closesT2 (ns := 0) ((sB50 hV.2.2.1 hK).mpr hk) hV.1.1 hV.2.1.1 b1.2.1 (by omega) hV.2.2.2.2.1, obd_s, bnd_e]
  have hV1 : PR x n tc G w0 L tk c 0 nd (zsI u 0 37 (nI 0)) := by
    obtain ⟨⟨⟨s1, s2, s3⟩, g1, g3⟩, t1, h1, h2, h3, h4, h5, h6, h7, h8, h9, h10, h11, h12, h13⟩ := hV
    refine ⟨⟨⟨?_, s2, s3⟩, ?_, g3⟩, ?_, ?_, ?_, ?_, ?_, ?_, h6, ?_, ?_, ?_, h10, h11, h12, h13⟩
    · simp only [zI_I, zI_L, zI_R, zI_A, zI_B, zL_I, zL_L, zL_R, zL_A, zL_B, zA_I, zA_L, zA_R, zA_A, zA_B, zB_I, zB_L, zB_R, zB_A, zB_B, reduceIte, Nat.reduceEqDiff, Nat.reduceEqDiff, false_and, and_false, true_and, and_true, ne_eq, not_false_eq_true, not_true_eq_false]; exact s1
    · simp only [zI_I, zI_L, zI_R, zI_A, zI_B, zL_I, zL_L, zL_R, zL_A, zL_B, zA_I, zA_L, zA_R, zA_A, zA_B, zB_I, zB_L, zB_R, zB_A, zB_B, reduceIte, Nat.reduceEqDiff, Nat.reduceEqDiff, false_and, and_false, true_and, and_true, ne_eq, not_false_eq_true, not_true_eq_false]; exact g1
    · unfold rT; simp only [zI_I, zI_L, zI_R, zI_A, zI_B, zL_I, zL_L, zL_R, zL_A, zL_B, zA_I, zA_L, zA_R, zA_A, zA_B, zB_I, zB_L, zB_R, zB_A, zB_B, reduceIte, Nat.reduceEqDiff, Nat.reduceEqDiff, false_and, and_false, true_and, and_true, ne_eq, not_false_eq_true, not_true_eq_false]; exact t1
    · simp only [zI_I, zI_L, zI_R, zI_A, zI_B, zL_I, zL_L, zL_R, zL_A, zL_B, zA_I, zA_L, zA_R, zA_A, zA_B, zB_I, zB_L, zB_R, zB_A, zB_B, reduceIte, Nat.reduceEqDiff, Nat.reduceEqDiff, false_and, and_false, true_and, and_true, ne_eq, not_false_eq_true, not_true_eq_false]; exact h1
    · simp only [zI_I, zI_L, zI_R, zI_A, zI_B, zL_I, zL_L, zL_R, zL_A, zL_B, zA_I, zA_L, zA_R, zA_A, zA_B, zB_I, zB_L, zB_R, zB_A, zB_B, reduceIte, Nat.reduceEqDiff, Nat.reduceEqDiff, false_and, and_false, true_and, and_true, ne_eq, not_false_eq_true, not_true_eq_false]; exact h2
    · simp only [zI_I, zI_L, zI_R, zI_A, zI_B, zL_I, zL_L, zL_R, zL_A, zL_B, zA_I, zA_L, zA_R, zA_A, zA_B, zB_I, zB_L, zB_R, zB_A, zB_B, reduceIte, Nat.reduceEqDiff, Nat.reduceEqDiff, false_and, and_false, true_and, and_true, ne_eq, not_false_eq_true, not_true_eq_false]
    · simp only [zI_I, zI_L, zI_R, zI_A, zI_B, zL_I, zL_L, zL_R, zL_A, zL_B, zA_I, zA_L, zA_R, zA_A, zA_B, zB_I, zB_L, zB_R, zB_A, zB_B, reduceIte, Nat.reduceEqDiff, Nat.reduceEqDiff, false_and, and_false, true_and, and_true, ne_eq, not_false_eq_true, not_true_eq_false]; exact h4
    · simp only [zI_I, zI_L, zI_R, zI_A, zI_B, zL_I, zL_L, zL_R, zL_A, zL_B, zA_I, zA_L, zA_R, zA_A, zA_B, zB_I, zB_L, zB_R, zB_A, zB_B, reduceIte, Nat.reduceEqDiff, Nat.reduceEqDiff, false_and, and_false, true_and, and_true, ne_eq, not_false_eq_true, not_true_eq_false]; exact h5
    · simp only [zI_I, zI_L, zI_R, zI_A, zI_B, zL_I, zL_L, zL_R, zL_A, zL_B, zA_I, zA_L, zA_R, zA_A, zA_B, zB_I, zB_L, zB_R, zB_A, zB_B, reduceIte, Nat.reduceEqDiff, Nat.reduceEqDiff, false_and, and_false, true_and, and_true, ne_eq, not_false_eq_true, not_true_eq_false]; exact h7
    · simp only [zI_I, zI_L, zI_R, zI_A, zI_B, zL_I, zL_L, zL_R, zL_A, zL_B, zA_I, zA_L, zA_R, zA_A, zA_B, zB_I, zB_L, zB_R, zB_A, zB_B, reduceIte, Nat.reduceEqDiff, Nat.reduceEqDiff, false_and, and_false, true_and, and_true, ne_eq, not_false_eq_true, not_true_eq_false]; exact h8
    · simp only [zI_I, zI_L, zI_R, zI_A, zI_B, zL_I, zL_L, zL_R, zL_A, zL_B, zA_I, zA_L, zA_R, zA_A, zA_B, zB_I, zB_L, zB_R, zB_A, zB_B, reduceIte, Nat.reduceEqDiff, Nat.reduceEqDiff, false_and, and_false, true_and, and_true, ne_eq, not_false_eq_true, not_true_eq_false]; exact h9
  have hI1 : ∀ j, j ≠ 37 → zI (zsI u 0 37 (nI 0)) 0 j = zI u 0 j := fun j hj => by rw [zI_I, if_neg (by omega)]
  have hA1 : ∀ a i, zA (zsI u 0 37 (nI 0)) a i = zA u a i := fun a i => zA_I ..
  revert hV1 hI1 hA1
  generalize zsI u 0 37 (nI 0) = s1
  intro hV1 hI1 hA1
  rw [show (0 : Int32) = nI 0 from rfl, b133R hL L.2.2 0 N _ (by omega) ((nxS_I (by omega)).trans hV1.2.2.2.2.2.2.1) (by omega)]
  -- the state behind the parameters
  have hI2 : ∀ j, ¬ (j = 17 ∨ j = 18 ∨ j = 19 ∨ j = 37) → zI (plF L.2.2 L.2.2 0 (nxS x n tk.1 s1)) 0 j = zI u 0 j := fun j hj => by rw [plF_I, nxS_I (by omega), hI1 j (by omega)]
  have hA2 : ∀ a i, a ≠ 14 → zA (plF L.2.2 L.2.2 0 (nxS x n tk.1 s1)) a i = zA u a i := fun a i ha => by rw [plF_A ha, nxS_A, hA1]
  have h21 : zI (plF L.2.2 L.2.2 0 (nxS x n tk.1 s1)) 0 21 = 0 := by rw [plF_I, nxS_I (by omega)]; exact hV1.2.2.1
  have h35 : zI (plF L.2.2 L.2.2 0 (nxS x n tk.1 s1)) 0 35 = nI G.2.2.2.2 := by rw [plF_I, nxS_I (by omega)]; exact hV1.2.2.2.2.2.2.2.2.2.1
  have hP2 : fP u (plF L.2.2 L.2.2 0 (nxS x n tk.1 s1)) := ⟨fun j hj => hI2 j (by omega), fun a i ha => hA2 a i (by omega)⟩
  rw [isWellT h21, obd_s, if_neg (by decide), h35, nI_clamp (by omega)]
  have hrd : rD x n 1100 (plF L.2.2 L.2.2 0 (nxS x n tk.1 s1)) := by
    obtain ⟨r1, ⟨p, r2, r3⟩, d, r4, r5⟩ := rD_nx (p := tk.1) (PR_rD hV1 b1.2.1 (by omega)) b1.2.1
    exact ⟨srcR_fP hV.1.1 hP2, ⟨p, r2, by rw [plF_I]; exact r3⟩, d, r4, by rw [plF_I]; exact r5⟩
  have h38 : zI (plF L.2.2 L.2.2 0 (nxS x n tk.1 s1)) 0 38 = nI nd := by rw [plF_I, nxS_I (by omega)]; exact hV1.2.2.2.2.2.1
  have h30 : zI (plF L.2.2 L.2.2 0 (nxS x n tk.1 s1)) 0 30 = nI L.2.2 := by rw [plF_I, nxS_I (by omega)]; exact hV1.2.2.2.2.2.2.1
  have h34 : zI (plF L.2.2 L.2.2 0 (nxS x n tk.1 s1)) 0 34 = nI 0 := by rw [plF_I, nxS_I (by omega)]; exact hV1.2.2.2.2.2.2.2.2.1
  have hSV : ∀ t5, cm x n tk = .ok t5 → SV x n tc (gAdd G w0 2 a (nI L.2.2)) (lPlace L) t5 c 0 nd (plF L.2.2 L.2.2 0 (nxS x n tk.1 s1)) := fun t5 hc => PR_SV hL (PR_n hc hV1)
  have hPD : ∀ e, cm x n tk = .error e → PD e (plF L.2.2 L.2.2 0 (nxS x n tk.1 s1)) := fun e hc => by
    have := PD_nx (τ := s1) hc hV1.2.2.1
    unfold PD at this ⊢
    rw [plF_I, plF_I, plF_I]
    exact this
  have h12 : zA (plF L.2.2 L.2.2 0 (nxS x n tk.1 s1)) 12 G.2.2.2.2 = nI 0 := by rw [hA2 _ _ (by omega)]; exact hV.2.2.2.2.2.2.2.2.2.2.2.2.2.2
  revert hI2 hA2 h21 h35 hP2 hrd h38 h30 h34 hSV hPD h12
  generalize plF L.2.2 L.2.2 0 (nxS x n tk.1 s1) = s2
  intro hI2 hA2 h21 h35 hP2 hrd h38 h30 h34 hSV hPD h12
  refine wp_obd ?_
  unfold fX12_block
  rw [bnd_e]
  -- the state with nothing open
  have h46 : zI (zsI s2 0 46 (0 : Int32)) 0 46 = nI 0 := by rw [zI_I, if_pos ⟨rfl, rfl⟩]; rfl
  have hI3 : ∀ j, j ≠ 46 → zI (zsI s2 0 46 (0 : Int32)) 0 j = zI s2 0 j := fun j hj => by rw [zI_I, if_neg (by omega)]
  have hA3 : ∀ a i, zA (zsI s2 0 46 (0 : Int32)) a i = zA s2 a i := fun a i => zA_I ..
  have hB3 : ∀ a i, zB (zsI s2 0 46 (0 : Int32)) a i = zB s2 a i := fun a i => zB_I ..
  have hL3 : zL (zsI s2 0 46 (0 : Int32)) 0 20 = zL s2 0 20 := zL_I ..
  revert h46 hI3 hA3 hB3 hL3
  generalize zsI s2 0 46 (0 : Int32) = s3
  intro h46 hI3 hA3 hB3 hL3
  have hP3 : fP u s3 := fP_trans hP2 ⟨fun j hj => hI3 j (by omega), fun a i _ => hA3 a i⟩
  have h33 := nI_bv (zI s3 0 33)
  have hrd3 : rD x n 1100 s3 := by
    obtain ⟨r1, ⟨p, r2, r3⟩, d, r4, r5⟩ := hrd
    exact ⟨srcR_fP hV.1.1 hP3, ⟨p, r2, (hI3 17 (by omega)).trans r3⟩, d, r4, (hI3 38 (by omega)).trans r5⟩
  -- where the BLOCK can't begin
  have nob : ∀ e : Int32, yFB x n tc (gAdd G w0 2 a (nI L.2.2)) (lPlace L) tk c = .error e → e ≠ 0 → (∀ K, rK s3 K → K ≠ 51) → (∃ K, rK s3 K) → stE s3 = e → wp (obd (fX12_beginBlock N s3) (fun _ σ3 => if (0 : Int32) < 0 ∨ 100 ≤ (0 : Int32).toNatClampNeg then none else bnd (zA σ3 23 (0 : Int32).toNatClampNeg) (fun x4 => bnd (-1 : Int32) (fun x5 => fX12_block_b18 N N x4 x5 σ3)))) (fun r z => wp (if nI G.2.2.2.2 < 0 ∨ 1400 ≤ G.2.2.2.2 then none else bnd (zsA z 11 G.2.2.2.2 r) (fun σ21 => some ((), σ21))) (fun _ z => FQ x n tc G (gAdd G w0 2 a (nI L.2.2)) (lPlace L) tk nd u (yFB x n tc (gAdd G w0 2 a (nI L.2.2)) (lPlace L) tk c) z)) := by
    intro e hres he0 hno hex hst
    obtain ⟨K, hK3⟩ := hex
    have h213 : zI s3 0 21 = 0 := (hI3 21 (by omega)).trans h21
    rw [bb_eq (nd := nd) (o := 0) (l := L.2.2) (pl := 0) ((hI3 38 (by omega)).trans h38) h46 h33 ((hI3 30 (by omega)).trans h30) ((hI3 34 (by omega)).trans h34) (by omega) (by omega)]
    have g21 : zI (bbS s3 0 nd (zI s3 0 33).toBitVec.toNat L.2.2 0) 0 21 = 0 := (bbS_I (by omega)).trans h213
    have gK : rK (bbS s3 0 nd (zI s3 0 33).toBitVec.toNat L.2.2 0) K := by
      unfold rK at hK3 ⊢
      have : zL (bbS s3 0 nd (zI s3 0 33).toBitVec.toNat L.2.2 0) 0 20 = zL s3 0 20 := by unfold bbS; simp only [zI_I, zI_L, zI_R, zI_A, zI_B, zL_I, zL_L, zL_R, zL_A, zL_B, zA_I, zA_L, zA_R, zA_A, zA_B, zB_I, zB_L, zB_R, zB_A, zB_B, reduceIte, Nat.reduceEqDiff, Nat.reduceEqDiff, false_and, and_false, true_and, and_true, ne_eq, not_false_eq_true, not_true_eq_false, ndS_L]
      rw [bbS_I (by omega), this]
      exact hK3
    have gst : stE (bbS s3 0 nd (zI s3 0 33).toBitVec.toNat L.2.2 0) = e := by
      rw [← hst]
      unfold stE
      rw [bbS_I (by omega), bbS_I (by omega)]
    rw [opensF (sF51 g21 gK (hno K hK3)), stS_eq g21, gst, obd_s, obd_s, if_neg (by decide), bnd_e, bnd_e]
    have hfb : fB nd 0 0 0 s3 (bbS s3 0 nd (zI s3 0 33).toBitVec.toNat L.2.2 0) := bbS_fB
    have hfx : FXb x n 1100 e u (zsI (bbS s3 0 nd (zI s3 0 33).toBitVec.toNat L.2.2 0) 0 21 e) := by
      refine FX_tr (FX_mk ?_) (fP_trans hP3 (fB_P hfb))
      obtain ⟨r1, ⟨p, r2, r3⟩, -⟩ := hrd3
      refine ⟨srcR_fP hV.1.1 (fP_trans hP3 (fB_P hfb)), ⟨p, r2, (bbS_I (by omega)).trans r3⟩, nd + 1, by omega, ?_⟩
      unfold bbS
      rw [zI_I, if_neg (by omega), zI_I, if_neg (by omega)]
      simp only [zI_A]
      exact ndS_38
    obtain ⟨N', hN'⟩ : ∃ g, N = g + 1 := ⟨N - 1, by omega⟩
    have hbk : ∀ (x1 : Int32) (Q : Int32 → zSt → Prop), Q x1 (zsI (bbS s3 0 nd (zI s3 0 33).toBitVec.toNat L.2.2 0) 0 21 e) → wp (fX12_block_b18 N N x1 (-1) (zsI (bbS s3 0 nd (zI s3 0 33).toBitVec.toNat L.2.2 0) 0 21 e)) Q := by
      intro x1 Q hQ
      have hx := bkE (N := N) (m := N') (x1 := x1) (r := -1) (Q := Q) (by rw [hfx.1]; exact he0) hQ
      rw [← hN'] at hx
      exact hx
    refine hbk _ _ ?_
    rw [if_neg (ixN hG (by omega)), bnd_e]
    refine wp_s ⟨fun e2 h => ?_, fun r tk' c' ms h => by rw [hres] at h; cases h⟩
    rw [hres] at h
    cases h
    have hf2 := FX_A (a := 11) (i := G.2.2.2.2) (v := zA (zsI (bbS s3 0 nd (zI s3 0 33).toBitVec.toNat L.2.2 0) 0 21 e) 23 (0 : Int32).toNatClampNeg) hfx (by omega)
    exact ⟨he0, Or.inl hf2.1, rD_le hf2.2.1 (by omega), hf2.2.2⟩
  cases hcm : cm x n tk with
  | error e =>
    have he0 := cm_ne hn hcm b1.2.1
    have hpd := hPD e hcm
    have hpd3 : PD e s3 := by
      unfold PD at hpd ⊢
      rw [hI3 21 (by omega), hI3 19 (by omega), hI3 18 (by omega)]
      exact hpd
    refine nob e (by unfold yFB; rw [hcm]; rfl) he0 ?_ ⟨-1, PD_K hpd3⟩ (stE_P hpd3)
    intro K hK3 q
    have h1 := (PD_K hpd3).1
    rw [hK3.1] at h1
    rw [q] at h1
    exact absurd h1 (by decide)
  | ok t5 =>
    have ht5 := sat_get (cm_ok (x := x) (n := n) (t := tk) (by omega) b1.2.1) hcm
    have hh5 := ht5.2
    have hq1 := ht5.1.1
    have hq2 := ht5.1.2.1
    have hS2 := hSV t5 hcm
    have hS3 : SV x n tc (gAdd G w0 2 a (nI L.2.2)) (lPlace L) t5 c 0 nd s3 := by
      obtain ⟨⟨⟨r1, r1b, r1c⟩, r2, r3, r4, r5, r6⟩, t1, v1, v2, v3, v4⟩ := hS2
      refine ⟨⟨⟨(hI3 16 (by omega)).trans r1, r1b, fun j hj => (hA3 6 j).trans (r1c j hj)⟩, (hI3 3 (by omega)).trans r2, (hI3 22 (by omega)).trans r3, fun g hg => by rw [hB3, hA3, hA3, hA3]; exact r4 g hg, (hI3 30 (by omega)).trans r5, fun j hj => by rw [hB3, hA3]; exact r6 j hj⟩, ?_, (hI3 21 (by omega)).trans v1, (hI3 36 (by omega)).trans v2, (hI3 37 (by omega)).trans v3, (hI3 38 (by omega)).trans v4⟩
      unfold rT
      rw [hI3 17 (by omega), hI3 18 (by omega), hI3 19 (by omega), hL3]
      exact t1
    have hK3 := rT_K hS3.2.1
    cases h51 : need 51 t5 with
    | error e =>
      obtain ⟨ee, hk5⟩ := need_ee h51
      have he0 := need_ne h51 (by omega)
      refine nob e (by unfold yFB; rw [hcm, xb_k, h51]; rfl) he0 ?_ ⟨_, hK3⟩ (by rw [ee]; exact stE_T hS3.2.1 ht5.1.2.2.2)
      intro K hKK q
      have h1 := hKK.1
      rw [hK3.1] at h1
      exact hk5 (h1.trans q)
    | ok y =>
      have hk5 := need_kk h51
      have hyf : yFB x n tc (gAdd G w0 2 a (nI L.2.2)) (lPlace L) tk c = yBlock x n tc (gAdd G w0 2 a (nI L.2.2)) (yS x n tc (gAdd G w0 2 a (nI L.2.2)) 42) 0 (lPlace L) 0 0 t5 c := by unfold yFB; rw [hcm, xb_k, h51, xb_k]
      rw [hyf] at h0 ⊢
      have hSB : SB x n tc (gAdd G w0 2 a (nI L.2.2)) (lPlace L) t5 c 0 nd (zI s3 0 33).toBitVec.toNat 0 G.2.2.2.2 0 0 s3 := ⟨hS3, h33, (hI3 34 (by omega)).trans h34, (hI3 35 (by omega)).trans h35, (hA3 _ _).trans h12, h46⟩
      -- the BLOCK
      have hbb : ∃ σ3, fX12_beginBlock N s3 = some ((), σ3) ∧ zA σ3 23 0 = nI nd := by
        rw [bb_eq (nd := nd) (o := 0) (l := L.2.2) (pl := 0) ((hI3 38 (by omega)).trans h38) h46 h33 ((hI3 30 (by omega)).trans h30) ((hI3 34 (by omega)).trans h34) (by omega) (by omega)]
        have hb1 := bbS_SB hSB
        have hKb := rT_K hb1.1.2.1
        have hne : ne 0 t5.2.1 = .ok () := by unfold ne; rw [if_neg (by omega)]
        refine ⟨_, by rw [show L.2.2 = (lPlace L).2.2 from rfl, opensT hne ((sB51 hb1.1.2.2.1 hKb).mpr hk5) hb1.1.2.2.1 hb1.1.2.2.2.2.1 (by omega) hb1.1.1.1 hb1.1.2.1.1 hq2 (by omega), obd_s], ?_⟩
        rw [nxS_A, zA_I]
        exact bbS_BT.2.1
      obtain ⟨σ3, hbb1, hbb2⟩ := hbb
      have hGl : (gAdd G w0 2 a (nI L.2.2)).2.2.2.2 ≤ 1400 := by show G.2.2.2.2 + 1 ≤ 1400; omega
      have hx := blockR (x1 := nI nd) (m := N) (k := 0) (fn := G.2.2.2.2) (Q := fun r z => wp (if nI G.2.2.2.2 < 0 ∨ 1400 ≤ G.2.2.2.2 then none else bnd (zsA z 11 G.2.2.2.2 r) (fun σ21 => some ((), σ21))) (fun _ z => FQ x n tc G (gAdd G w0 2 a (nI L.2.2)) (lPlace L) tk nd u (yBlock x n tc (gAdd G w0 2 a (nI L.2.2)) (yS x n tc (gAdd G w0 2 a (nI L.2.2)) 42) 0 (lPlace L) 0 0 t5 c) z)) hn hN hGl hG (ySR hn hN hGl hG 42) (yS_sW 42) hSB ⟨ht5.1, b2, b3, by omega, by omega, by omega⟩ (fun i hi => absurd hi (Nat.not_lt_zero _)) (Nat.le_refl _) (by omega) hk5 (by show L.2.2 ≤ t5.2.1; omega) (Nat.le_refl _) (Nat.zero_le _) (by omega) h0 ?_ ?_
      · rw [hbb1, obd_s] at hx
        rw [hbb1, obd_s, if_neg (by decide), bnd_e, bnd_e]
        show wp (fX12_block_b18 N N (zA σ3 23 0) (-1) σ3) _
        rw [hbb2]
        exact hx
      · intro r tk' c' ms nd' m' z hres hVz hBz hfz hndz hrep h21z hplz hms1 hms2 hmz
        have hpn' : tk'.2.1 ≤ n := by have := hBz.1.1; have := hBz.1.2.1; omega
        obtain ⟨m', rfl⟩ : ∃ g, m' = g + 1 := ⟨m' - 1, by omega⟩
        rw [fX12_block_b18, isWellT hVz.1.2.2.1, obd_s, if_neg (by decide), if_pos (by rw [hVz.2.2.2.2.2]; decide)]
        refine wp_s ?_
        rw [if_neg (ixN hG (by omega)), bnd_e]
        have hBlz := BD_le hBz hn
        refine wp_s ⟨fun e h => (by rw [hres] at h; cases h), fun r2 tk2 c2 ms2 h => ?_⟩
        rw [hres] at h
        cases h
        have hSz : SV x n tc (gAdd G w0 2 a (nI L.2.2)) (lPlace L) tk' c' 0 nd' (zsA z 11 G.2.2.2.2 (nI nd)) := by
          obtain ⟨⟨⟨r1, r1b, r1c⟩, r2, r3, r4, r5, r6⟩, t1, v1, v2, v3, v4⟩ := hVz.1
          refine ⟨⟨⟨r1, r1b, fun j hj => by rw [zA_A, if_neg (by omega)]; exact r1c j hj⟩, r2, r3, fun g hg => ?_, r5, fun j hj => ?_⟩, t1, v1, v2, v3, v4⟩
          · rw [zB_A, zA_A, if_neg (by omega), zA_A, if_neg (by omega), zA_A, if_neg (by omega)]; exact r4 g hg
          · rw [zB_A, zA_A, if_neg (by omega)]; exact r6 j hj
        refine ⟨nd', hSz, hBz, hndz, by rw [zA_A, if_pos ⟨rfl, rfl⟩], by rw [zA_A, if_neg (by omega)]; exact hVz.2.2.2.2.1, ?_, by omega, hms2, ?_, fun a' i q1 q2 q3 => ?_, fun i hi => ?_, ?_⟩
        · refine rep_frame _ _ _ _ (fun j hj => ⟨hj, fun a' q1 q2 => ?_⟩) hrep
          rw [zA_A, if_neg (by omega)]
        · rw [zI_A, hfz.1 29 (by omega), hI3 29 (by omega), hI2 29 (by omega)]
        · rw [zA_A, if_neg (by omega), hfz.2.1 a' i (by omega) (by omega) (by omega) (by omega) (by omega), hA3, hA2 a' i (by omega)]
        · constructor
          · rw [zA_A, if_neg (by omega), hfz.2.1 11 i (by omega) (by omega) (by omega) (by omega) (by omega), hA3, hA2 11 i (by omega)]
          · rw [zA_A, if_neg (by omega), hfz.2.1 12 i (by omega) (by omega) (by omega) (by omega) (by omega), hA3, hA2 12 i (by omega)]
        · exact fP_A (fP_trans hP3 (fB_P hfz)) (by omega)
      · intro e r z hres he0 heb
        show wp (if nI G.2.2.2.2 < 0 ∨ 1400 ≤ G.2.2.2.2 then none else bnd (zsA z 11 G.2.2.2.2 r) (fun σ21 => some ((), σ21))) _
        rw [if_neg (ixN hG (by omega)), bnd_e]
        refine wp_s ⟨fun e2 h => ?_, fun r2 tk2 c2 ms2 h => by rw [hres] at h; cases h⟩
        rw [hres] at h
        cases h
        rcases heb with ⟨q1, q2, q3⟩ | ⟨q1, q2, q3⟩
        · exact ⟨he0, Or.inl q1, rD_A q2 (by omega), fP_A (fP_trans hP3 q3) (by omega)⟩
        · exact ⟨he0, Or.inr (PD_A q1), rD_A q2 (by omega), fP_A (fP_trans hP3 q3) (by omega)⟩
