/-! THE REFERENCE'S READER: a part of an E-/
theorem nd15 {τ : zSt} {k : Int32} {d : Nat} : zA (ndS τ k d) 15 d = k := ndS_t.1
theorem nd16 {τ : zSt} {k : Int32} {d : Nat} : zA (ndS τ k d) 16 d = -1 := ndS_t.2.1
theorem nd17 {τ : zSt} {k : Int32} {d : Nat} : zA (ndS τ k d) 17 d = -1 := ndS_t.2.2.1
theorem nd18 {τ : zSt} {k : Int32} {d : Nat} : zA (ndS τ k d) 18 d = -1 := ndS_t.2.2.2.1
theorem nd19 {τ : zSt} {k : Int32} {d : Nat} : zA (ndS τ k d) 19 d = 0 := ndS_t.2.2.2.2.1
theorem nd20 {τ : zSt} {k : Int32} {d : Nat} : zA (ndS τ k d) 20 d = 0 := ndS_t.2.2.2.2.2.1
theorem nd21 {τ : zSt} {k : Int32} {d : Nat} : zA (ndS τ k d) 21 d = -1 := ndS_t.2.2.2.2.2.2
theorem stE_T {tk : yTok} {τ : zSt} (h : rT tk τ) (hk : tk.2.2.1 ≠ -1) : stE τ = 2 + 16 * nI tk.2.1 := by
  obtain ⟨a1, a2, a3, a4, a5⟩ := h
  unfold stE
  rw [if_neg (fun q => hk ((kdm1 a4 a5).mp q)), a2]
theorem stE_P {e : Int32} {τ : zSt} (h : PD e τ) : stE τ = e := by
  unfold stE
  rw [if_pos h.2.1]
  exact h.2.2.symm
/-- how an E goes on, well or not-/
def OK1 (x : Nat → Int32) (n tc : Nat) (G : gE) (L : lE) (N : Nat) (tk : yTok) (ns nd w : Nat) (τ : zSt) (Q : Int32 → zSt → Prop) (res : Except Int32 (fT × yTok × Nat × Option Nat)) : Prop :=
  ∀ t tk' c' i nd' m' u, res = .ok (t, tk', c', none) → RV x n tc G L tk' c' ns nd' w u → BD n tc tk' c' ns nd' w → fE nd w τ u → nd ≤ nd' → rep u t nd nd' (nI i) → zA u 21 i = -1 → i < 4200 → tk.2.1 < tk'.2.1 → n + 5 ≤ m' + tk'.2.1 → wp (fX12_works_b2 N m' (nI i) u) Q
def ER1 {α : Type} (x : Nat → Int32) (n v : Nat) (cl : Int32) (τ : zSt) (Q : Int32 → zSt → Prop) (res : Except Int32 α) : Prop := ∀ e r u, res = .error e → e ≠ 0 → FO x n e v cl τ u → Q r u
/-- the pile of what waits: ones above signs of two parts above what has opened this E -/
def STK (τ : zSt) (v lo : Nat) (cl : Int32) (l ops : yOps) (w lw nd : Nat) : Prop := opn τ v cl ∧ (∀ o ∈ l, isOne o.1 = true) ∧ (∀ o ∈ ops, 0 < rk o.1) ∧ rOps τ (v + 1) lo (l ++ ops) w lw ∧ lw ≤ nd
theorem STK_fE {τ u : zSt} {v lo : Nat} {cl : Int32} {l ops : yOps} {w lw nd nd' : Nat} (h : STK τ v lo cl l ops w lw nd) (hf : fE nd w τ u) (hd : nd ≤ nd') : STK u v lo cl l ops w lw nd' := by
  obtain ⟨h1, h2, h3, h4, h5⟩ := h
  have hle := rOps_le h4
  refine ⟨opn_fE h1 hf (by omega), h2, h3, rOps_frame (fun a i q1 q2 q3 q4 => hf.2.1 a i (by omega) (by omega)) (fun a i q1 q2 q3 q4 => hf.2.1 a i (by omega) (by omega)) h4, by omega⟩
theorem STK_w {τ : zSt} {v lo : Nat} {cl : Int32} {l ops : yOps} {w lw nd : Nat} (h : STK τ v lo cl l ops w lw nd) : v + 1 ≤ w ∧ w = v + 1 + (l.length + ops.length) := by
  obtain ⟨h1, h2, h3, h4, h5⟩ := h
  have hle := rOps_le h4
  rw [List.length_append] at hle
  omega
/-- a part is there; a token that is none has been come to behind it -/
theorem penF {x : Nat → Int32} {n N m v lo i0 w lw nd ns : Nat} {cl e : Int32} {τ u : zSt} {Q : Int32 → zSt → Prop} {l ops : yOps} {tk : yTok} (hn : n ≤ 512) (hN : 5000 ≤ N) (hK : STK u v lo cl l ops w lw nd) (hc : cm x n tk = .error e) (he : e ≠ 0) (h21 : zI u 0 21 = 0) (h54 : zI u 0 54 = nI w) (hw : w ≤ 1299) (h37 : zI u 0 37 = nI ns) (hns : l.length ≤ ns) (hs : srcR x n u) (h38 : zI u 0 38 = nI nd) (hnd : nd ≤ 1200) (htk : tk.1 ≤ n) (hi : i0 < 4200) (hp : fP τ u) (h29 : zA u 29 v = zA τ 29 v) (hQ : ∀ r z, FO x n e v cl τ z → Q r z) : wp (fX12_works_b2 N (m + 2) (nI i0) (nxS x n tk.1 u)) Q := by
  obtain ⟨s1, s2, s3, s4, s5⟩ := hK
  have hpd := PD_nx (τ := u) hc h21
  have hy := yAt_ok x n tk.1 htk
  have hE : fE nd w u (nxS x n tk.1 u) := nxS_E fE_refl
  have hcl : cl ≠ -1 := by
    rcases s1 with ⟨-, -, ⟨rfl, -⟩ | ⟨rfl, -⟩ | ⟨rfl, -⟩⟩ | ⟨-, rfl⟩ | ⟨-, rfl, -⟩ | ⟨-, rfl, -⟩ <;> decide
  obtain ⟨b1, b2, b3, b4, b5⟩ := STK_fE (nd' := nd) ⟨s1, s2, s3, s4, s5⟩ hE (Nat.le_refl _)
  refine partF (nd := nd) (ns := ns - l.length) hN ⟨srcR_fE hs hE, ⟨(yAt x n tk.1).1, hy.2.2.1, rT_nx.1⟩, nd, hnd, (nxS_I (by omega)).trans h38⟩ hpd.1 b1 b2 b3 b4 ((nxS_I (by omega)).trans h54) hw ?_ b5 (PD_K hpd) ?_ (by decide) (stE_P hpd).symm he hi (fun r z hz => hQ r z (FO_tr hz (fP_trans hp (nxS_P fP_refl)) h29))
  · rw [nxS_I (by omega), h37]; congr 1; omega
  · unfold yEnds
    rw [decide_eq_false_iff_not]
    rintro (q | q)
    · exact hcl q.symm
    · exact absurd q.2 (by decide)
/-! numbers -/
theorem part41 {N : Nat} {τ : zSt} (h21 : zI τ 0 21 = 0) (hK : rK τ 41) : fX12_part N τ = obd (fX12_four N (zI τ 0 18) τ) (fun _ u => if (lg_cmp (zL u 0 20) (2147483647 : Int64)) ≤ 0 then fX12_part_b138 N u else obd (fX12_fails N (11 : Int32) (zI τ 0 18) u) (fun _ u2 => fX12_part_b138 N u2)) := by
  unfold fX12_part
  rw [bnd_e, isSignF (sF22 h21 hK (by decide)), obd_s, if_pos rfl, isSignF (sF25 h21 hK (by decide)), obd_s, if_pos rfl, isSignF (sF26 h21 hK (by decide)), obd_s, if_pos rfl, if_pos ((kd41 hK.1 hK.2).mpr rfl)]
theorem b138R {N n p nd : Nat} {x : Nat → Int32} {u : zSt} (hs : srcR x n u) (h17 : zI u 0 17 = nI p) (hp : p ≤ n) (hN : n + 20 ≤ N) (h38 : zI u 0 38 = nI nd) (hnd : nd < 4200) : fX12_part_b138 N u = some (nI nd, nxS x n p (zsA (ndS u 1 nd) 19 nd ((zL u 0 20).toInt32))) := by
  unfold fX12_part_b138
  rw [nodeR h38 hnd, obd_s, nI_clamp (by omega), if_neg (ixN hnd (by omega)), bnd_e, nx_eq (srcR_fP hs (fP_A (ndS_P fP_refl) (by omega))) (by rw [zI_A, ndS_I (by omega)]; exact h17) hp hN, obd_s]
  rfl
theorem opNum {x : Nat → Int32} {n tc : Nat} {G : gE} {L : lE} {N : Nat} {R : yRec} {tk : yTok} {c ns nd w v lo lw m : Nat} {cl : Int32} {l ops : yOps} {τ : zSt} {Q : Int32 → zSt → Prop} (hn : n ≤ 512) (hN : 5000 ≤ N) (hV : RV x n tc G L tk c ns nd w τ) (hB : BD n tc tk c ns nd w) (hS : STK τ v lo cl l ops w lw nd) (hl : l.length ≤ ns) (hm : n + 5 ≤ m + tk.2.1) (hk : tk.2.2.1 = 41)
    (hok : OK1 x n tc G L N tk ns nd w τ Q (yOper x n tc R G L ns tk c)) (her : ER1 x n v cl τ Q (yOper x n tc R G L ns tk c)) : wp (fX12_works_b2 N m (-1) τ) Q := by
  have hD := RV_D hV hB hn
  obtain ⟨rs, rt, h21, h36, h37, h38, h54⟩ := hV
  obtain ⟨b1, b2, b3, b4, b5, b6⟩ := hB
  have hlt := tk_ne b1 hk (by decide)
  have hb11 := b1.2.1
  have hw := STK_w hS
  have hK := rT_K rt
  rw [hk] at hK
  obtain ⟨m, rfl⟩ : ∃ g, m = g + 3 := ⟨m - 3, by omega⟩
  obtain ⟨w', rfl⟩ : ∃ g, w = g + 1 := ⟨w - 1, by omega⟩
  rw [wkN h21 h54 (by omega), part41 h21 hK, rt.2.1]
  have hp4 : tk.2.1 ≤ 4096 := by omega
  unfold yOper at hok her
  rw [if_pos hk] at hok her
  cases hfo : fo tc c tk.2.1 with
  | error e =>
    rw [hfo, xb_e] at her
    have he0 : e ≠ 0 := by rw [(fo_ee hfo).1]; exact er_ne erK9 hp4
    have u21 : zI (zsI (zsI τ 0 21 e) 0 36 (nI (c + 4))) 0 21 ≠ 0 := by simp only [zI_I, zI_L, zI_R, zI_A, zI_B, zL_I, zL_L, zL_R, zL_A, zL_B, zA_I, zA_L, zA_R, zA_A, zA_B, zB_I, zB_L, zB_R, zB_A, zB_B, reduceIte, Nat.reduceEqDiff, Nat.reduceEqDiff, false_and, and_false, true_and, and_true, ne_eq, not_false_eq_true, not_true_eq_false]; exact he0
    have hfx : FXb x n 1100 e τ (zsI (zsI τ 0 21 e) 0 36 (nI (c + 4))) := FX_I (FX_mk hD) (by omega)
    have hb := b138R (N := N) (x := x) (n := n) (p := tk.1) (nd := nd) (u := zsI (zsI τ 0 21 e) 0 36 (nI (c + 4))) hfx.2.1.1 (by simp only [zI_I, zI_L, zI_R, zI_A, zI_B, zL_I, zL_L, zL_R, zL_A, zL_B, zA_I, zA_L, zA_R, zA_A, zA_B, zB_I, zB_L, zB_R, zB_A, zB_B, reduceIte, Nat.reduceEqDiff, Nat.reduceEqDiff, false_and, and_false, true_and, and_true, ne_eq, not_false_eq_true, not_true_eq_false]; exact rt.1) b1.2.1 (by omega) (by simp only [zI_I, zI_L, zI_R, zI_A, zI_B, zL_I, zL_L, zL_R, zL_A, zL_B, zA_I, zA_L, zA_R, zA_A, zA_B, zB_I, zB_L, zB_R, zB_A, zB_B, reduceIte, Nat.reduceEqDiff, Nat.reduceEqDiff, false_and, and_false, true_and, and_true, ne_eq, not_false_eq_true, not_true_eq_false]; exact h38) (by omega)
    rw [fourE hfo h21 h36 rs.2.1 (by omega), obd_s]
    refine wp_obd ?_
    have hfin : ∀ r, wp (fX12_works_b2 N (m + 2) r (nxS x n tk.1 (zsA (ndS (zsI (zsI τ 0 21 e) 0 36 (nI (c + 4))) 1 nd) 19 nd ((zL (zsI (zsI τ 0 21 e) 0 36 (nI (c + 4))) 0 20).toInt32)))) Q := by
      intro r
      have hf2 := FX_nx (FX_A (a := 19) (i := nd) (v := ((zL (zsI (zsI τ 0 21 e) 0 36 (nI (c + 4))) 0 20).toInt32)) (FX_nd (k := 1) (d := nd) hfx (by omega)) (by omega)) b1.2.1
      refine wkE (by rw [hf2.1]; exact he0) (fun r => her e r _ rfl he0 (Or.inl (FX_le hf2 (by omega))))
    split
    · exact wp_eq hb (hfin _)
    · rw [failsD u21, obd_s]
      exact wp_eq hb (hfin _)
  | ok c1 =>
    rw [hfo, xb_k] at her hok
    obtain ⟨hc1, hc2⟩ := fo_kk hfo
    rw [fourT hfo h36 rs.2.1 b3, obd_s]
    have hE1 : fE nd (w' + 1) τ (zsI τ 0 36 (nI c1)) := fE_I fE_refl (by omega)
    have u20 : zL (zsI τ 0 36 (nI c1)) 0 20 = tk.2.2.2 := rt.2.2.1
    rw [u20]
    by_cases hg : (2147483647 : Int64) < tk.2.2.2
    · rw [if_pos hg] at her
      have he0 : (11 : Int32) + 16 * nI tk.2.1 ≠ 0 := er_ne erK11 hp4
      rw [if_neg (fun q => by rw [lg_cmp_le] at q; exact absurd hg (Int64.not_lt.mpr q)), failsR, obd_s, flS_eq (by simp only [zI_I, zI_L, zI_R, zI_A, zI_B, zL_I, zL_L, zL_R, zL_A, zL_B, zA_I, zA_L, zA_R, zA_A, zA_B, zB_I, zB_L, zB_R, zB_A, zB_B, reduceIte, Nat.reduceEqDiff, Nat.reduceEqDiff, false_and, and_false, true_and, and_true, ne_eq, not_false_eq_true, not_true_eq_false]; exact h21)]
      have hD1 : rD x n 1100 (zsI τ 0 36 (nI c1)) := by
        obtain ⟨d1, ⟨p, d2, d3⟩, d, d4, d5⟩ := hD
        exact ⟨srcR_I d1 _ _ (by omega), ⟨p, d2, by simp only [zI_I, zI_L, zI_R, zI_A, zI_B, zL_I, zL_L, zL_R, zL_A, zL_B, zA_I, zA_L, zA_R, zA_A, zA_B, zB_I, zB_L, zB_R, zB_A, zB_B, reduceIte, Nat.reduceEqDiff, Nat.reduceEqDiff, false_and, and_false, true_and, and_true, ne_eq, not_false_eq_true, not_true_eq_false]; exact d3⟩, d, d4, by simp only [zI_I, zI_L, zI_R, zI_A, zI_B, zL_I, zL_L, zL_R, zL_A, zL_B, zA_I, zA_L, zA_R, zA_A, zA_B, zB_I, zB_L, zB_R, zB_A, zB_B, reduceIte, Nat.reduceEqDiff, Nat.reduceEqDiff, false_and, and_false, true_and, and_true, ne_eq, not_false_eq_true, not_true_eq_false]; exact d5⟩
      have hfx : FXb x n 1100 (11 + 16 * nI tk.2.1) τ (zsI (zsI τ 0 36 (nI c1)) 0 21 (11 + 16 * nI tk.2.1)) := FX_tr (FX_mk hD1) (fE_P hE1)
      rw [b138R (x := x) (n := n) (p := tk.1) (nd := nd) hfx.2.1.1 (by simp only [zI_I, zI_L, zI_R, zI_A, zI_B, zL_I, zL_L, zL_R, zL_A, zL_B, zA_I, zA_L, zA_R, zA_A, zA_B, zB_I, zB_L, zB_R, zB_A, zB_B, reduceIte, Nat.reduceEqDiff, Nat.reduceEqDiff, false_and, and_false, true_and, and_true, ne_eq, not_false_eq_true, not_true_eq_false]; exact rt.1) b1.2.1 (by omega) (by simp only [zI_I, zI_L, zI_R, zI_A, zI_B, zL_I, zL_L, zL_R, zL_A, zL_B, zA_I, zA_L, zA_R, zA_A, zA_B, zB_I, zB_L, zB_R, zB_A, zB_B, reduceIte, Nat.reduceEqDiff, Nat.reduceEqDiff, false_and, and_false, true_and, and_true, ne_eq, not_false_eq_true, not_true_eq_false]; exact h38) (by omega), obd_s]
      have hf2 := FX_nx (FX_A (a := 19) (i := nd) (v := ((zL (zsI (zsI τ 0 36 (nI c1)) 0 21 (11 + 16 * nI tk.2.1)) 0 20).toInt32)) (FX_nd (k := 1) (d := nd) hfx (by omega)) (by omega)) b1.2.1
      exact wkE (by rw [hf2.1]; exact he0) (fun r => her _ r _ rfl he0 (Or.inl (FX_le hf2 (by omega))))
    · rw [if_neg hg] at her hok
      rw [if_pos (by rw [lg_cmp_le]; exact Int64.not_lt.mp hg), b138R (x := x) (n := n) (p := tk.1) (nd := nd) (srcR_fE rs.1 hE1) (by simp only [zI_I, zI_L, zI_R, zI_A, zI_B, zL_I, zL_L, zL_R, zL_A, zL_B, zA_I, zA_L, zA_R, zA_A, zA_B, zB_I, zB_L, zB_R, zB_A, zB_B, reduceIte, Nat.reduceEqDiff, Nat.reduceEqDiff, false_and, and_false, true_and, and_true, ne_eq, not_false_eq_true, not_true_eq_false]; exact rt.1) b1.2.1 (by omega) (by simp only [zI_I, zI_L, zI_R, zI_A, zI_B, zL_I, zL_L, zL_R, zL_A, zL_B, zA_I, zA_L, zA_R, zA_A, zA_B, zB_I, zB_L, zB_R, zB_A, zB_B, reduceIte, Nat.reduceEqDiff, Nat.reduceEqDiff, false_and, and_false, true_and, and_true, ne_eq, not_false_eq_true, not_true_eq_false]; exact h38) (by omega), obd_s, u20]
      have hE2 : fE nd (w' + 1) τ (zsA (ndS (zsI τ 0 36 (nI c1)) 1 nd) 19 nd tk.2.2.2.toInt32) := fE_A (ndS_E hE1 (Nat.le_refl _)) (by omega)
      have s21 : zI (zsA (ndS (zsI τ 0 36 (nI c1)) 1 nd) 19 nd tk.2.2.2.toInt32) 0 21 = 0 := by simp (disch := omega) only [zI_I, zI_L, zI_R, zI_A, zI_B, zL_I, zL_L, zL_R, zL_A, zL_B, zA_I, zA_L, zA_R, zA_A, zA_B, zB_I, zB_L, zB_R, zB_A, zB_B, reduceIte, Nat.reduceEqDiff, Nat.reduceEqDiff, false_and, and_false, true_and, and_true, ne_eq, not_false_eq_true, not_true_eq_false, ndS_I]; exact h21
      have s37 : zI (zsA (ndS (zsI τ 0 36 (nI c1)) 1 nd) 19 nd tk.2.2.2.toInt32) 0 37 = nI ns := by simp (disch := omega) only [zI_I, zI_L, zI_R, zI_A, zI_B, zL_I, zL_L, zL_R, zL_A, zL_B, zA_I, zA_L, zA_R, zA_A, zA_B, zB_I, zB_L, zB_R, zB_A, zB_B, reduceIte, Nat.reduceEqDiff, Nat.reduceEqDiff, false_and, and_false, true_and, and_true, ne_eq, not_false_eq_true, not_true_eq_false, ndS_I]; exact h37
      have s38 : zI (zsA (ndS (zsI τ 0 36 (nI c1)) 1 nd) 19 nd tk.2.2.2.toInt32) 0 38 = nI (nd + 1) := by rw [zI_A, ndS_38]
      have s54 : zI (zsA (ndS (zsI τ 0 36 (nI c1)) 1 nd) 19 nd tk.2.2.2.toInt32) 0 54 = nI (w' + 1) := by simp (disch := omega) only [zI_I, zI_L, zI_R, zI_A, zI_B, zL_I, zL_L, zL_R, zL_A, zL_B, zA_I, zA_L, zA_R, zA_A, zA_B, zB_I, zB_L, zB_R, zB_A, zB_B, reduceIte, Nat.reduceEqDiff, Nat.reduceEqDiff, false_and, and_false, true_and, and_true, ne_eq, not_false_eq_true, not_true_eq_false, ndS_I]; exact h54
      have s36 : zI (zsA (ndS (zsI τ 0 36 (nI c1)) 1 nd) 19 nd tk.2.2.2.toInt32) 0 36 = nI c1 := by simp (disch := omega) only [zI_I, zI_L, zI_R, zI_A, zI_B, zL_I, zL_L, zL_R, zL_A, zL_B, zA_I, zA_L, zA_R, zA_A, zA_B, zB_I, zB_L, zB_R, zB_A, zB_B, reduceIte, Nat.reduceEqDiff, Nat.reduceEqDiff, false_and, and_false, true_and, and_true, ne_eq, not_false_eq_true, not_true_eq_false, ndS_I]
      cases hcm : cm x n tk with
      | error e =>
        rw [hcm, xb_e] at her
        have he0 : e ≠ 0 := by rw [(cm_e hcm).1]; exact er_ne erK1 (by have := yAt_ok x n tk.1 b1.2.1; omega)
        exact penF hn hN (STK_fE (nd' := nd + 1) hS hE2 (by omega)) hcm he0 s21 s54 (by omega) s37 hl (srcR_fE rs.1 hE2) s38 (by omega) b1.2.1 (by omega) (fE_P hE2) (hE2.2.1 29 v (by omega) (by omega)) (fun r z hz => her e r z rfl he0 hz)
      | ok t1 =>
        rw [hcm, xb_k] at hok
        have ht1 := sat_get (cm_ok (x := x) (n := n) (t := tk) (by omega) b1.2.1) hcm
        refine hok _ t1 c1 nd (nd + 1) (m + 2) _ rfl (RV_nx hcm (rS_fE rs hE2) s21 s36 s37 s38 s54) ⟨ht1.1, by omega, b3, b4, by have := ht1.2; omega, by have := ht1.2; omega⟩ (nxS_E hE2) (by omega) ?_ (by rw [nxS_A, zA_A, if_neg (by omega), nd21]) (by omega) (by have := ht1.2; omega) (by have := ht1.2; omega)
        refine rep_0 rfl (by decide) (by omega) ?_ ?_ ?_ ?_ ?_ ?_
        · rw [nxS_A, zA_A, if_neg (by omega), nd15]; rfl
        · rw [nxS_A, zA_A, if_pos ⟨rfl, rfl⟩, Int32.ofInt_toInt]
        · rw [nxS_A, zA_A, if_neg (by omega), nd20]; rfl
        · rw [nxS_A, zA_A, if_neg (by omega), nd16]
        · rw [nxS_A, zA_A, if_neg (by omega), nd17]
        · rw [nxS_A, zA_A, if_neg (by omega), nd18]
