/-! THE REFERENCE'S READER: a LOCAL -/
def yLoc (x : Nat → Int32) (n tc : Nat) (G : gE) (bf ns : Nat) (L : lE) (tk : yTok) (c : Nat) : Except Int32 (fT × Int64 × yTok × Nat) :=
  xb (cm x n tk) (fun t1 => xb (need 40 t1) (fun _ => if dupL L bf t1.2.2.2 = true then er 4 t1.2.1 else xb (cm x n t1) (fun t2 =>
  xb (if t2.2.2.1 = 57 then xb (cm x n t2) (fun t3 => yE x n tc G L 42 ns 56 t3 c) else .ok (fZ, t2, c)) (fun u => xb (need 56 u.2.1) (fun _ => xb (cm x n u.2.1) (fun t5 => .ok (u.1, t1.2.2.2, t5, u.2.2)))))))
def tlS (z : zSt) (ln pl d fn ms : Nat) (w : Int64) : zSt := zsA (zsI (zsI (zsA (zsA (zsB z 13 ln w) 14 ln (nI pl)) 19 d (nI pl)) 0 30 (nI (ln + 1))) 0 34 (nI (pl + 1))) 12 fn (nI (max ms (pl + 1)))
theorem tlS_eq {N ln pl d fn ms : Nat} {w : Int64} {z : zSt} (h21 : zI z 0 21 = 0) (h30 : zI z 0 30 = nI ln) (h34 : zI z 0 34 = nI pl) (h35 : zI z 0 35 = nI fn) (h12 : zA z 12 fn = nI ms) (hln : ln < 1400) (hpl : pl < 4096) (hfn : fn < 1400) (hms : ms ≤ 4096) (hd : d < 4200) :
    (if (zI z 0 30) < 0 ∨ 1400 ≤ (zI z 0 30).toNatClampNeg then none else (bnd (zsB z 13 (zI z 0 30).toNatClampNeg w) (fun σ16 => if (zI σ16 0 30) < 0 ∨ 1400 ≤ (zI σ16 0 30).toNatClampNeg then none else (bnd (zsA σ16 14 (zI σ16 0 30).toNatClampNeg (zI σ16 0 34)) (fun σ17 => if (nI d) < 0 ∨ 4200 ≤ (nI d).toNatClampNeg then none else (bnd (zsA σ17 19 (nI d).toNatClampNeg (zI σ17 0 34)) (fun σ18 => bnd (zsI σ18 0 30 ((zI σ18 0 30) + (1 : Int32))) (fun σ19 => bnd (zsI σ19 0 34 ((zI σ19 0 34) + (1 : Int32))) (fun σ20 => if (zI σ20 0 35) < 0 ∨ 1400 ≤ (zI σ20 0 35).toNatClampNeg then none else (if (zI σ20 0 34) ≤ (zA σ20 12 (zI σ20 0 35).toNatClampNeg) then (if (zI σ20 0 35) < 0 ∨ 1400 ≤ (zI σ20 0 35).toNatClampNeg then none else (fX12_tellLocal_b194 N (nI d) (zA σ20 12 (zI σ20 0 35).toNatClampNeg) (zI σ20 0 35) σ20)) else (fX12_tellLocal_b194 N (nI d) (zI σ20 0 34) (zI σ20 0 35) σ20))))))))))) = some (nI d, tlS z ln pl d fn ms w) := by
  rw [h30, nI_clamp (by omega), if_neg (ixN hln (by omega)), bnd_e, zI_B, h30, nI_clamp (by omega), if_neg (ixN hln (by omega)), zI_B, h34, bnd_e, if_neg (by rw [nI_clamp (by omega)]; exact ixN hd (by omega)), nI_clamp (by omega), zI_A, zI_B, h34, bnd_e]
  have e30 : zI (zsA (zsA (zsB z 13 ln w) 14 ln (nI pl)) 19 d (nI pl)) 0 30 = nI ln := by rw [zI_A, zI_A, zI_B]; exact h30
  rw [e30, bnd_e]
  have e34 : zI (zsI (zsA (zsA (zsB z 13 ln w) 14 ln (nI pl)) 19 d (nI pl)) 0 30 (nI ln + 1)) 0 34 = nI pl := by rw [zI_I, if_neg (by omega), zI_A, zI_A, zI_B]; exact h34
  rw [e34, bnd_e, nI_1, nI_1]
  have f35 : zI (zsI (zsI (zsA (zsA (zsB z 13 ln w) 14 ln (nI pl)) 19 d (nI pl)) 0 30 (nI (ln + 1))) 0 34 (nI (pl + 1))) 0 35 = nI fn := by rw [zI_I, if_neg (by omega), zI_I, if_neg (by omega), zI_A, zI_A, zI_B]; exact h35
  have f34 : zI (zsI (zsI (zsA (zsA (zsB z 13 ln w) 14 ln (nI pl)) 19 d (nI pl)) 0 30 (nI (ln + 1))) 0 34 (nI (pl + 1))) 0 34 = nI (pl + 1) := by rw [zI_I, if_pos ⟨rfl, rfl⟩]
  have f12 : zA (zsI (zsI (zsA (zsA (zsB z 13 ln w) 14 ln (nI pl)) 19 d (nI pl)) 0 30 (nI (ln + 1))) 0 34 (nI (pl + 1))) 12 fn = nI ms := by rw [zA_I, zA_I, zA_A, if_neg (by omega), zA_A, if_neg (by omega), zA_B]; exact h12
  rw [f35, f34, nI_clamp (show fn < 2 ^ 31 by omega), if_neg (ixN hfn (by omega)), f12]
  unfold fX12_tellLocal_b194
  rw [nI_clamp (show fn < 2 ^ 31 by omega), if_neg (ixN hfn (by omega)), if_neg (ixN hfn (by omega)), bnd_e]
  unfold tlS
  by_cases hc : pl + 1 ≤ ms
  · rw [if_pos (nI_le hc (by omega)), show max ms (pl + 1) = ms by omega]
  · rw [if_neg (nI_ge (by omega) (by omega)), show max ms (pl + 1) = pl + 1 by omega, if_neg (ixN hfn (by omega)), bnd_e]
theorem tlS_I {z : zSt} {ln pl d fn ms : Nat} {w : Int64} {j : Nat} (h : j ≠ 30 ∧ j ≠ 34) : zI (tlS z ln pl d fn ms w) 0 j = zI z 0 j := by
  unfold tlS
  rw [zI_A, zI_I, if_neg (by omega), zI_I, if_neg (by omega), zI_A, zI_A, zI_B]
theorem tlS_A {z : zSt} {ln pl d fn ms : Nat} {w : Int64} {a i : Nat} (h : ¬ (a = 12 ∧ i = fn)) (h2 : ¬ (a = 19 ∧ i = d)) (h3 : ¬ (a = 14 ∧ i = ln)) : zA (tlS z ln pl d fn ms w) a i = zA z a i := by
  unfold tlS
  rw [zA_A, if_neg h, zA_I, zA_I, zA_A, if_neg h2, zA_A, if_neg h3, zA_B]
/-- the LOCAL is known from now on -/
theorem tlS_SB {x : Nat → Int32} {n tc : Nat} {G : gE} {L : lE} {tk : yTok} {c ns nd bf pl fn ms o d : Nat} {w : Int64} {z : zSt} (h : SB x n tc G L tk c ns nd bf pl fn ms o z) : SB x n tc G (lAdd L w (nI pl)) tk c ns nd bf (pl + 1) fn (max ms (pl + 1)) o (tlS z L.2.2 pl d fn ms w) := by
  obtain ⟨⟨⟨⟨r1, r1b, r1c⟩, r2, r3, r4, r5, r6⟩, t1, s1, s2, s3, s4⟩, h33, h34, h35, h12, h46⟩ := h
  refine ⟨⟨⟨⟨?_, r1b, fun j hj => ?_⟩, ?_, ?_, fun g hg => ?_, ?_, fun j hj => ?_⟩, ?_, ?_, ?_, ?_, ?_⟩, ?_, ?_, ?_, ?_, ?_⟩
  · rw [tlS_I (by omega)]; exact r1
  · rw [tlS_A (by omega) (by omega) (by omega)]; exact r1c j hj
  · rw [tlS_I (by omega)]; exact r2
  · rw [tlS_I (by omega)]; exact r3
  · rw [tlS_A (by omega) (by omega) (by omega), tlS_A (by omega) (by omega) (by omega), tlS_A (by omega) (by omega) (by omega)]
    have : zB (tlS z L.2.2 pl d fn ms w) 7 g = zB z 7 g := by unfold tlS; simp only [zI_I, zI_L, zI_R, zI_A, zI_B, zL_I, zL_L, zL_R, zL_A, zL_B, zA_I, zA_L, zA_R, zA_A, zA_B, zB_I, zB_L, zB_R, zB_A, zB_B, reduceIte, Nat.reduceEqDiff, Nat.reduceEqDiff, false_and, and_false, true_and, and_true, ne_eq, not_false_eq_true, not_true_eq_false]
    rw [this]
    exact r4 g hg
  · unfold tlS
    simp only [zI_I, zI_L, zI_R, zI_A, zI_B, zL_I, zL_L, zL_R, zL_A, zL_B, zA_I, zA_L, zA_R, zA_A, zA_B, zB_I, zB_L, zB_R, zB_A, zB_B, reduceIte, Nat.reduceEqDiff, Nat.reduceEqDiff, false_and, and_false, true_and, and_true, ne_eq, not_false_eq_true, not_true_eq_false]
    rfl
  · have hj2 : j < L.2.2 + 1 := hj
    have e13 : zB (tlS z L.2.2 pl d fn ms w) 13 j = if j = L.2.2 then w else zB z 13 j := by unfold tlS; simp only [zI_I, zI_L, zI_R, zI_A, zI_B, zL_I, zL_L, zL_R, zL_A, zL_B, zA_I, zA_L, zA_R, zA_A, zA_B, zB_I, zB_L, zB_R, zB_A, zB_B, reduceIte, Nat.reduceEqDiff, Nat.reduceEqDiff, false_and, and_false, true_and, and_true, ne_eq, not_false_eq_true, not_true_eq_false]
    rw [e13]
    by_cases e : j = L.2.2
    · rw [if_pos e]
      refine ⟨(if_pos e).symm, ?_⟩
      have : zA (tlS z L.2.2 pl d fn ms w) 14 j = nI pl := by
        unfold tlS
        rw [zA_A, if_neg (by omega), zA_I, zA_I, zA_A, if_neg (by omega), zA_A, if_pos ⟨rfl, e⟩]
      rw [this]
      exact (if_pos e).symm
    · rw [if_neg e, tlS_A (by omega) (by omega) (by omega)]
      obtain ⟨q1, q2⟩ := r6 j (by omega)
      exact ⟨q1.trans (if_neg e).symm, q2.trans (if_neg e).symm⟩
  · unfold rT
    rw [tlS_I (by omega), tlS_I (by omega), tlS_I (by omega)]
    have : zL (tlS z L.2.2 pl d fn ms w) 0 20 = zL z 0 20 := by unfold tlS; simp only [zI_I, zI_L, zI_R, zI_A, zI_B, zL_I, zL_L, zL_R, zL_A, zL_B, zA_I, zA_L, zA_R, zA_A, zA_B, zB_I, zB_L, zB_R, zB_A, zB_B, reduceIte, Nat.reduceEqDiff, Nat.reduceEqDiff, false_and, and_false, true_and, and_true, ne_eq, not_false_eq_true, not_true_eq_false]
    rw [this]
    exact t1
  · rw [tlS_I (by omega)]; exact s1
  · rw [tlS_I (by omega)]; exact s2
  · rw [tlS_I (by omega)]; exact s3
  · rw [tlS_I (by omega)]; exact s4
  · rw [tlS_I (by omega)]; exact h33
  · unfold tlS; rw [zI_A, zI_I, if_pos ⟨rfl, rfl⟩]
  · rw [tlS_I (by omega)]; exact h35
  · unfold tlS; rw [zA_A, if_pos ⟨rfl, rfl⟩]
  · rw [tlS_I (by omega)]; exact h46
theorem tlS_B {z τ : zSt} {lo o ln pl d fn ms : Nat} {w : Int64} (h : fB lo o ln fn τ z) (hd : lo ≤ d) : fB lo o ln fn τ (tlS z ln pl d fn ms w) := by
  unfold tlS
  exact fB_A (fB_I (fB_I (fB_A (fB_A (fB_Bz h (Nat.le_refl _)) (by omega)) (by omega)) (by omega)) (by omega)) (by omega)
/-- what comes of a LOCAL -/
def TQ (x : Nat → Int32) (n tc : Nat) (G : gE) (L : lE) (tk : yTok) (ns nd bf pl fn ms o : Nat) (τ : zSt) (res : Except Int32 (fT × Int64 × yTok × Nat)) (r : Int32) (u : zSt) : Prop :=
  (∀ e, res = .error e → e ≠ 0 ∧ (FX x n e τ u ∨ (PD e u ∧ rD x n 1200 u ∧ fB nd o L.2.2 fn τ u ∧ zI u 0 46 = nI o ∧ r = nI nd))) ∧
  (∀ t w tk' c', res = .ok (t, w, tk', c') → ∃ nd', r = nI nd ∧ SB x n tc G (lAdd L w (nI pl)) tk' c' ns nd' bf (pl + 1) fn (max ms (pl + 1)) o u ∧ BD n tc tk' c' ns nd' 0 ∧ fB nd o L.2.2 fn τ u ∧ nd + 1 ≤ nd' ∧ rep u (fN 21 pl 0 t fZ fZ) nd nd' (nI nd) ∧ zA u 21 nd = -1 ∧ tk.2.1 + 1 < tk'.2.1)
theorem TQ_e {x : Nat → Int32} {n tc : Nat} {G : gE} {L : lE} {tk : yTok} {ns nd bf pl fn ms o b : Nat} {τ u : zSt} {res : Except Int32 (fT × Int64 × yTok × Nat)} {r : Int32} {e : Int32} (h : res = .error e) (he : e ≠ 0) (hf : FXb x n b e τ u) (hb : b ≤ 1200) : TQ x n tc G L tk ns nd bf pl fn ms o τ res r u := by
  refine ⟨fun e2 h2 => ?_, fun t w tk' c' h2 => ?_⟩
  · rw [h] at h2; cases h2; exact ⟨he, Or.inl (FX_le hf hb)⟩
  · rw [h] at h2; cases h2
theorem SB_fE {x : Nat → Int32} {n tc : Nat} {G : gE} {L : lE} {tk tk' : yTok} {c c' ns nd nd' ns' bf pl fn ms o lo : Nat} {τ u : zSt} (h : SB x n tc G L tk c ns nd bf pl fn ms o τ) (hv : SV x n tc G L tk' c' ns' nd' u) (hf : fE lo 0 τ u) : SB x n tc G L tk' c' ns' nd' bf pl fn ms o u :=
  ⟨hv, (hf.1 33 (by omega)).trans h.2.1, (hf.1 34 (by omega)).trans h.2.2.1, (hf.1 35 (by omega)).trans h.2.2.2.1, (hf.2.1 12 fn (by omega) (by omega)).trans h.2.2.2.2.1, (hf.1 46 (by omega)).trans h.2.2.2.2.2⟩
theorem b86R {x : Nat → Int32} {n tc : Nat} {G : gE} {L : lE} {N : Nat} {tk tk4 : yTok} {c4 ns nd nd4 bf pl fn ms o : Nat} {w : Int64} {t : fT} {τ z : zSt} (hn : n ≤ 512) (hN : 5000 ≤ N) (hV : SB x n tc G L tk4 c4 ns nd4 bf pl fn ms o z) (hB : BD n tc tk4 c4 ns nd4 0) (hE : fE nd 0 τ z) (hnd : nd + 1 ≤ nd4) (hL : L.2.2 < 1400) (hpl : pl < 4096) (hms : ms ≤ 4096) (hfn : fn < 1400) (hp : tk.2.1 + 1 ≤ tk4.2.1)
    (hrep : ∀ u : zSt, (∀ a j, rng nd nd4 j → 15 ≤ a → a ≤ 21 → ¬ (a = 19 ∧ j = nd) → zA u a j = zA z a j) → zA u 19 nd = nI pl → rep u (fN 21 pl 0 t fZ fZ) nd nd4 (nI nd) ∧ zA u 21 nd = -1) (res : Except Int32 (fT × Int64 × yTok × Nat)) (hres : res = xb (need 56 tk4) (fun _ => xb (cm x n tk4) (fun t5 => .ok (t, w, t5, c4)))) :
    wp (fX12_tellLocal_b86 N (nI nd) w z) (TQ x n tc G L tk ns nd bf pl fn ms o τ res) := by
  have hBl := BD_le hB hn
  obtain ⟨b1, b2, b3, b4, b5, b6⟩ := hB
  have hK := rT_K hV.1.2.1
  unfold fX12_tellLocal_b86
  subst hres
  cases hnd2 : need 56 tk4 with
  | error e =>
    obtain ⟨ee, hk1⟩ := need_ee hnd2
    have he0 := need_ne hnd2 (by omega)
    have hfx : FXb x n 1100 e τ (zsI z 0 21 e) := FX_tr (FX_mk (SV_rD hV.1 b1.2.1 (by omega))) (fE_P hE)
    rw [takesF (sF56 hV.1.2.2.1 hK hk1), stS_eq hV.1.2.2.1, stE_T hV.1.2.1 b1.2.2.2, ← ee, obd_s, isWellF (by rw [hfx.1]; exact he0), obd_s, if_pos rfl]
    exact wp_s (TQ_e rfl he0 hfx (by omega))
  | ok y =>
    rw [xb_k]
    have hk1 := need_kk hnd2
    have hlt := tk_ne b1 hk1 (by decide)
    rw [takesR_yes ((sB56 hV.1.2.2.1 hK).mpr hk1), nextS hV.1 b1.2.1 (by omega), obd_s]
    have h21 : zI (nxS x n tk4.1 z) 0 21 = 0 := (nxS_I (by omega)).trans hV.1.2.2.1
    rw [isWellT h21, obd_s, if_neg (by decide)]
    refine wp_eq (tlS_eq (N := N) (ln := L.2.2) (pl := pl) (d := nd) (fn := fn) (ms := ms) h21 ((nxS_I (by omega)).trans hV.1.1.2.2.2.2.1) ((nxS_I (by omega)).trans hV.2.2.1) ((nxS_I (by omega)).trans hV.2.2.2.1) (nxS_A.trans hV.2.2.2.2.1) hL hpl hfn hms (by omega)) ?_
    have hBz : fB nd o L.2.2 fn τ (tlS (nxS x n tk4.1 z) L.2.2 pl nd fn ms w) := tlS_B (fB_nx (fE_B hE)) (Nat.le_refl _)
    cases hcm : cm x n tk4 with
    | error e =>
      refine ⟨fun e2 h2 => ?_, fun t2 w2 tk2 c2 h2 => (by cases h2)⟩
      cases h2
      have hpd := PD_nx (τ := z) hcm hV.1.2.2.1
      refine ⟨cm_ne hn hcm b1.2.1, Or.inr ⟨?_, ?_, hBz, ?_, rfl⟩⟩
      · unfold PD
        rw [tlS_I (by omega), tlS_I (by omega), tlS_I (by omega)]
        exact hpd
      · obtain ⟨r1, ⟨p, r2, r3⟩, d, r4, r5⟩ := rD_nx (p := tk4.1) (SV_rD hV.1 b1.2.1 (by omega)) b1.2.1
        exact ⟨srcR_fP hV.1.1.1 (fP_trans (nxS_P fP_refl) (fB_P (lo := 0) (o := 0) (ln := L.2.2) (fn := fn) (tlS_B fB_refl (Nat.zero_le _)))), ⟨p, r2, (tlS_I (by omega)).trans r3⟩, d, by omega, (tlS_I (by omega)).trans r5⟩
      · rw [tlS_I (by omega), nxS_I (by omega)]; exact hV.2.2.2.2.2
    | ok t5 =>
      refine ⟨fun e2 h2 => (by cases h2), fun t2 w2 tk2 c2 h2 => ?_⟩
      cases h2
      have ht5 := sat_get (cm_ok (x := x) (n := n) (t := tk4) (by omega) b1.2.1) hcm
      have hh5 := ht5.2
      have hSBz : SB x n tc G L t5 c4 ns nd4 bf pl fn ms o (nxS x n tk4.1 z) := SB_fE (lo := 0) hV (SV_n hcm hV.1) (nxS_E fE_refl)
      have hr := hrep (tlS (nxS x n tk4.1 z) L.2.2 pl nd fn ms w) (fun a j q1 q2 q3 q4 => by rw [tlS_A (by omega) q4 (by omega), nxS_A]) (by unfold tlS; rw [zA_A, if_neg (by omega), zA_I, zA_I, zA_A, if_pos ⟨rfl, rfl⟩])
      exact ⟨nd4, rfl, tlS_SB hSBz, ⟨ht5.1, b2, b3, b4, by omega, by omega⟩, hBz, hnd, hr.1, hr.2, by omega⟩
theorem tlR {x : Nat → Int32} {n tc : Nat} {G : gE} {L : lE} {N : Nat} {tk : yTok} {c ns nd bf pl fn ms o : Nat} {τ : zSt} (hn : n ≤ 512) (hN : 5000 ≤ N) (hG : G.2.2.2.2 ≤ 1400) (hV : SB x n tc G L tk c ns nd bf pl fn ms o τ) (hB : BD n tc tk c ns nd 0) (hk : tk.2.2.1 ≠ 58) (hL : L.2.2 < 1400) (hbf : bf < 4096) (hpl : pl < 4096) (hms : ms ≤ 4096) (hfn : fn < 1400) (h0 : yLoc x n tc G bf ns L tk c ≠ .error 0) :
    wp (fX12_tellLocal N τ) (TQ x n tc G L tk ns nd bf pl fn ms o τ (yLoc x n tc G bf ns L tk c)) := by
  have hBl := BD_le hB hn
  obtain ⟨b1, b2, b3, b4, b5, b6⟩ := hB
  have hlt := tk_ne b1 rfl hk
  unfold fX12_tellLocal
  rw [nodeR hV.1.2.2.2.2.2 (by omega), obd_s]
  have hV1 : SV x n tc G L tk c ns (nd + 1) (ndS τ 21 nd) := SV_nd hV.1
  have hE1 : fE nd 0 τ (ndS τ 21 nd) := ndS_E fE_refl (Nat.le_refl _)
  have hF1 : ndF (ndS τ 21 nd) nd 21 := ⟨nd15, nd16, nd17, nd18, nd19, nd20, nd21⟩
  have hS1 := SB_fE hV hV1 hE1
  revert hV1 hE1 hF1 hS1
  generalize ndS τ 21 nd = s1
  intro hV1 hE1 hF1 hS1
  rw [nextS hV1 b1.2.1 (by omega), obd_s]
  unfold yLoc at h0 ⊢
  cases hcm : cm x n tk with
  | error e =>
    have he0 := cm_ne hn hcm b1.2.1
    have hpd := PD_nx (τ := s1) hcm hV1.2.2.1
    have hfx : FXb x n 1100 e τ (zsI (nxS x n tk.1 s1) 0 21 e) := FX_tr (FX_mk (rD_nx (SV_rD hV1 b1.2.1 (by omega)) b1.2.1)) (nxS_P (fE_P hE1))
    rw [if_neg (by rw [hpd.2.1]; decide), strayR, stS_eq hpd.1, stE_P hpd, obd_s]
    exact wp_s (TQ_e rfl he0 hfx (by omega))
  | ok t1 =>
    rw [hcm, xb_k] at h0
    rw [xb_k]
    have ht1 := sat_get (cm_ok (x := x) (n := n) (t := tk) (by omega) b1.2.1) hcm
    have hh1 := ht1.2
    have hq1 := ht1.1.1
    have hq2 := ht1.1.2.1
    have hV2 := SV_n hcm hV1
    have hE2 : fE nd 0 τ (nxS x n tk.1 s1) := nxS_E hE1
    have hF2 : ndF (nxS x n tk.1 s1) nd 21 := ndF_cong hF1 (fun a _ _ => nxS_A)
    have hS2 : SB x n tc G L t1 c ns (nd + 1) bf pl fn ms o (nxS x n tk.1 s1) := SB_fE (lo := 0) hS1 hV2 (nxS_E fE_refl)
    revert hV2 hE2 hF2 hS2
    generalize nxS x n tk.1 s1 = s2
    intro hV2 hE2 hF2 hS2
    have hK2 := rT_K hV2.2.1
    have hD2 := SV_rD hV2 hq2 (by omega)
    cases hnd2 : need 40 t1 with
    | error e =>
      obtain ⟨ee, hk1⟩ := need_ee hnd2
      have he0 := need_ne hnd2 (by omega)
      rw [if_neg (fun q => hk1 ((kd40 hK2.1 hK2.2).mp q)), strayR, stS_eq hV2.2.2.1, stE_T hV2.2.1 ht1.1.2.2.2, ← ee, obd_s]
      exact wp_s (TQ_e rfl he0 (FX_tr (FX_mk hD2) (fE_P hE2)) (by omega))
    | ok y =>
      rw [hnd2, xb_k] at h0
      rw [xb_k]
      have hk1 := need_kk hnd2
      have hlt1 := tk_ne ht1.1 hk1 (by decide)
      rw [if_pos ((kd40 hK2.1 hK2.2).mpr hk1), bnd_e, hV2.2.1.2.2.1, localOfR hV2.1 (by omega) (by omega), obd_s, hS2.2.1]
      have hdup : (ixI (lkN L.1 t1.2.2.2 L.2.2) < nI bf) ↔ ¬ dupL L bf t1.2.2.2 = true := by
        unfold dupL
        cases hl : lkN L.1 t1.2.2.2 L.2.2 with
        | none =>
          have h1 : ixI none < nI bf := by
            show (-1 : Int32) < nI bf
            rw [Int32.lt_iff_toInt_lt, nI_toInt (by omega)]
            have : (-1 : Int32).toInt = -1 := rfl
            omega
          exact ⟨fun _ q => (by cases q), fun _ => h1⟩
        | some k =>
          have hkl := (lkN_lt hl).1
          show (nI k < nI bf) ↔ ¬ decide (bf ≤ k) = true
          rw [nI_ltI (by omega) (by omega), decide_eq_true_eq]
          omega
      by_cases hd : dupL L bf t1.2.2.2 = true
      · rw [if_pos hd]
        have he0 : (4 : Int32) + 16 * nI t1.2.1 ≠ 0 := er_ne erK4 (by omega)
        rw [if_neg (fun q => hdup.mp q hd), failsR, flS_eq hV2.2.2.1, hV2.2.1.2.1, obd_s]
        exact wp_s (TQ_e rfl he0 (FX_tr (FX_mk hD2) (fE_P hE2)) (by omega))
      · rw [if_neg hd] at h0 ⊢
        rw [if_pos (hdup.mpr hd), nextS hV2 hq2 (by omega), obd_s]
        cases hcm1 : cm x n t1 with
        | error e =>
          have he0 := cm_ne hn hcm1 hq2
          have hpd := PD_nx (τ := s2) hcm1 hV2.2.2.1
          have hfx : FXb x n 1100 e τ (zsI (nxS x n t1.1 s2) 0 21 e) := FX_tr (FX_mk (rD_nx hD2 hq2)) (nxS_P (fE_P hE2))
          rw [isSignF (sF57 hpd.1 (PD_K hpd) (by decide)), obd_s, if_pos rfl]
          unfold fX12_tellLocal_b86
          rw [takesF (sF56 hpd.1 (PD_K hpd) (by decide)), stS_eq hpd.1, stE_P hpd, obd_s, isWellF (by rw [hfx.1]; exact he0), obd_s, if_pos rfl]
          exact wp_s (TQ_e rfl he0 hfx (by omega))
        | ok t2 =>
          rw [hcm1, xb_k] at h0
          rw [xb_k]
          have ht2 := sat_get (cm_ok (x := x) (n := n) (t := t1) (by omega) hq2) hcm1
          have hh2 := ht2.2
          have hq3 := ht2.1.1
          have hq4 := ht2.1.2.1
          have hV3 := SV_n hcm1 hV2
          have hE3 : fE nd 0 τ (nxS x n t1.1 s2) := nxS_E hE2
          have hF3 : ndF (nxS x n t1.1 s2) nd 21 := ndF_cong hF2 (fun a _ _ => nxS_A)
          have hS3 : SB x n tc G L t2 c ns (nd + 1) bf pl fn ms o (nxS x n t1.1 s2) := SB_fE (lo := 0) hS2 hV3 (nxS_E fE_refl)
          revert hV3 hE3 hF3 hS3
          generalize nxS x n t1.1 s2 = s3
          intro hV3 hE3 hF3 hS3
          have hK3 := rT_K hV3.2.1
          have hB3 : BD n tc t2 c ns (nd + 1) 0 := ⟨ht2.1, b2, b3, b4, by omega, by omega⟩
          by_cases h57 : t2.2.2.1 = 57
          · rw [if_pos h57] at h0 ⊢
            have hlt2 := tk_ne ht2.1 h57 (by decide)
            rw [isSignT ((sB57 hV3.2.2.1 hK3).mpr h57), obd_s, if_neg (by decide), nextS hV3 hq4 (by omega), obd_s]
            cases hcm2 : cm x n t2 with
            | error e =>
              have he0 := cm_ne hn hcm2 hq4
              refine wp_obd (wp_mono (exprP (cl := 56) hN (PD_nx hcm2 hV3.2.2.1) (rD_le (rD_nx (SV_rD hV3 hq4 (by omega)) hq4) (by omega)) he0) (fun r z hz => ?_))
              obtain ⟨y2, y3, y4⟩ := EE_takes (N := N) (EE_A (a := 16) (i := nd) (v := r) hz (by omega)) he0
              rw [nI_clamp (by omega), if_neg (ixN (show nd < 4200 by omega) (by omega)), bnd_e]
              unfold fX12_tellLocal_b86
              rw [show (59 : Int32) = sgC 56 from rfl, y3, obd_s, isWellF (by rw [y4.1]; exact he0), obd_s, if_pos rfl]
              exact wp_s (TQ_e rfl he0 (FX_tr y4 (nxS_P (fE_P hE3))) (by omega))
            | ok t3 =>
              rw [hcm2, xb_k] at h0
              rw [xb_k]
              have ht3 := sat_get (cm_ok (x := x) (n := n) (t := t2) (by omega) hq4) hcm2
              have hh3 := ht3.2
              have hV4 := SV_n hcm2 hV3
              refine wp_obd (wp_mono (exprR (cl := 56) hn hN hG (by omega) (Or.inl rfl) rfl hV4 ⟨ht3.1, b2, b3, b4, by omega, by omega⟩ (fun q => h0 (by rw [q]; rfl))) (fun r z hq => ?_))
              rw [nI_clamp (by omega), if_neg (ixN (show nd < 4200 by omega) (by omega)), bnd_e]
              cases hres : yE x n tc G L 42 ns 56 t3 c with
              | error e =>
                obtain ⟨he0, hee⟩ := hq.1 e hres
                obtain ⟨y2, y3, y4⟩ := EE_takes (N := N) (EE_A (a := 16) (i := nd) (v := r) hee (by omega)) he0
                unfold fX12_tellLocal_b86
                rw [show (59 : Int32) = sgC 56 from rfl, y3, obd_s, isWellF (by rw [y4.1]; exact he0), obd_s, if_pos rfl]
                exact wp_s (TQ_e rfl he0 (FX_tr y4 (nxS_P (fE_P hE3))) (by omega))
              | ok v =>
                obtain ⟨i, nd', rfl, hVu, hBu, hEu, hndu, hrep, h21i, hi, hri, hEnd, hplv⟩ := hq.2 v.1 v.2.1 v.2.2 hres
                rw [xb_k]
                have hEz : fE nd 0 τ (zsA z 16 nd (nI i)) := fE_A (fE_trans (nxS_E hE3) (fE_trans (lo := nd) (w0 := 0) fE_refl hEu (by omega) (Nat.le_refl _)) (Nat.le_refl _) (Nat.le_refl _)) (by omega)
                have hSz : SB x n tc G L v.2.1 v.2.2 ns nd' bf pl fn ms o (zsA z 16 nd (nI i)) := SB_fE hV (SV_A hVu (by omega)) hEz
                refine b86R hn hN hSz hBu hEz (by omega) hL hpl hms hfn (by omega) ?_ _ rfl
                intro u hu h19
                have hz : ∀ a, a ≤ 21 → 15 ≤ a → a ≠ 16 → a ≠ 19 → zA u a nd = zA s3 a nd := fun a q1 q2 q3 q4 => by
                  rw [hu a nd ⟨Nat.le_refl _, by omega⟩ q2 q1 (by omega), zA_A, if_neg (by omega), hEu.2.1 a nd (by omega) (by omega), nxS_A]
                refine ⟨?_, by rw [hz 21 (by omega) (by omega) (by omega) (by omega)]; exact hF3.2.2.2.2.2.2⟩
                refine rep_1 rfl (by decide) (by omega) ?_ ?_ ?_ (by omega) ?_ ?_ ?_
                · rw [hz 15 (by omega) (by omega) (by omega) (by omega)]; exact hF3.1
                · rw [h19]; exact (ofI pl).symm
                · rw [hz 20 (by omega) (by omega) (by omega) (by omega)]; exact hF3.2.2.2.2.2.1
                · rw [hu 16 nd ⟨Nat.le_refl _, by omega⟩ (by omega) (by omega) (by omega), zA_A, if_pos ⟨rfl, rfl⟩]
                  refine rep_frame _ _ _ _ (fun j hj => ⟨hj, fun a q1 q2 => ?_⟩) hrep
                  rw [hu a j ⟨by have := hj.1; omega, hj.2⟩ q1 q2 (by have := hj.1; omega), zA_A, if_neg (by have := hj.1; omega)]
                · rw [hz 17 (by omega) (by omega) (by omega) (by omega)]; exact hF3.2.2.1
                · rw [hz 18 (by omega) (by omega) (by omega) (by omega)]; exact hF3.2.2.2.1
          · rw [if_neg h57, xb_k]
            rw [isSignF (sF57 hV3.2.2.1 hK3 h57), obd_s, if_pos rfl]
            refine b86R hn hN hS3 hB3 hE3 (by omega) hL hpl hms hfn (by omega) ?_ _ rfl
            intro u hu h19
            have hz : ∀ a, a ≤ 21 → 15 ≤ a → a ≠ 19 → zA u a nd = zA s3 a nd := fun a q1 q2 q3 => hu a nd ⟨Nat.le_refl _, by omega⟩ q2 q1 (by omega)
            refine ⟨?_, by rw [hz 21 (by omega) (by omega) (by omega)]; exact hF3.2.2.2.2.2.2⟩
            refine rep_0 rfl (by decide) (by omega) ?_ ?_ ?_ ?_ ?_ ?_
            · rw [hz 15 (by omega) (by omega) (by omega)]; exact hF3.1
            · rw [h19]; exact (ofI pl).symm
            · rw [hz 20 (by omega) (by omega) (by omega)]; exact hF3.2.2.2.2.2.1
            · rw [hz 16 (by omega) (by omega) (by omega)]; exact hF3.2.1
            · rw [hz 17 (by omega) (by omega) (by omega)]; exact hF3.2.2.1
            · rw [hz 18 (by omega) (by omega) (by omega)]; exact hF3.2.2.2.1
