/-! THE REFERENCE'S READER: read ( ), ( E ) -/
theorem cm_ne {x : Nat → Int32} {n : Nat} {tk : yTok} {e : Int32} (hn : n ≤ 512) (h : cm x n tk = .error e) (ht : tk.1 ≤ n) : e ≠ 0 := by
  rw [(cm_e h).1]
  exact er_ne erK1 (by have := yAt_ok x n tk.1 ht; omega)
theorem ne_ne {ns p : Nat} {e : Int32} (h : ne ns p = .error e) (hp : p ≤ 4096) : e ≠ 0 := by
  rw [(ne_ee h).1]
  exact er_ne erK8 hp
theorem fo_ne {tc c p : Nat} {e : Int32} (h : fo tc c p = .error e) (hp : p ≤ 4096) : e ≠ 0 := by
  rw [(fo_ee h).1]
  exact er_ne erK9 hp
theorem need_ne {k : Int32} {t : yTok} {e : Int32} (h : need k t = .error e) (hp : t.2.1 ≤ 4096) : e ≠ 0 := by
  rw [(need_ee h).1]
  exact er_ne erK2 hp
theorem rD_I {x : Nat → Int32} {n b : Nat} {τ : zSt} {k : Nat} {v : Int32} (h : rD x n b τ) (hk : k ≠ 16 ∧ k ≠ 17 ∧ k ≠ 38) : rD x n b (zsI τ 0 k v) := by
  obtain ⟨d1, ⟨p, d2, d3⟩, d, d4, d5⟩ := h
  exact ⟨srcR_I d1 _ _ (by omega), ⟨p, d2, by rw [zI_I, if_neg (by omega)]; exact d3⟩, d, d4, by rw [zI_I, if_neg (by omega)]; exact d5⟩
theorem rD_nx {x : Nat → Int32} {n b p : Nat} {τ : zSt} (h : rD x n b τ) (hp : p ≤ n) : rD x n b (nxS x n p τ) := by
  obtain ⟨h2, -, d, h4, h5⟩ := h
  have hy := yAt_ok x n p hp
  exact ⟨srcR_fE (lo := 0) (w0 := 0) h2 (nxS_E fE_refl), ⟨(yAt x n p).1, hy.2.2.1, rT_nx.1⟩, d, h4, (nxS_I (by omega)).trans h5⟩
theorem rD_nd {x : Nat → Int32} {n b d : Nat} {k : Int32} {τ : zSt} (h : rD x n b τ) (hd : d < b) : rD x n b (ndS τ k d) := by
  obtain ⟨h2, ⟨p, h3, h3b⟩, -⟩ := h
  exact ⟨srcR_fP h2 (ndS_P fP_refl), ⟨p, h3, (ndS_I (by omega)).trans h3b⟩, d + 1, hd, ndS_38⟩
theorem rD_A {x : Nat → Int32} {n b a i : Nat} {v : Int32} {τ : zSt} (h : rD x n b τ) (ha : 7 ≤ a ∧ a ≤ 33) : rD x n b (zsA τ a i v) := by
  obtain ⟨h2, h3, h4⟩ := h
  exact ⟨srcR_fP h2 (fP_A fP_refl ha), h3, h4⟩
theorem nxS_sw {x : Nat → Int32} {n p k : Nat} {v : Int32} {τ : zSt} (hk : k ≠ 17 ∧ k ≠ 18 ∧ k ≠ 19) : zsI (nxS x n p τ) 0 k v = nxS x n p (zsI τ 0 k v) := by
  unfold nxS tokS
  rw [zsIL, zsI_swap _ 0 19 0 k _ _ (by omega), zsI_swap _ 0 17 0 k _ _ (by omega), zsI_swap _ 0 18 0 k _ _ (by omega)]
theorem tokS_A {τ : zSt} {e p a i : Nat} {k v : Int32} {t : Int64} : zsA (tokS τ e p k t) a i v = tokS (zsA τ a i v) e p k t := rfl
theorem nxS_swA {x : Nat → Int32} {n p a i : Nat} {v : Int32} {τ : zSt} : zsA (nxS x n p τ) a i v = nxS x n p (zsA τ a i v) := by
  unfold nxS
  exact tokS_A
theorem closesT2 {N ns : Nat} {x : Nat → Int32} {n p : Nat} {τ : zSt} {s : Int32} (h : sgB τ s = true) (hs : srcR x n τ) (h17 : zI τ 0 17 = nI p) (hp : p ≤ n) (hN : n + 20 ≤ N) (h37 : zI τ 0 37 = nI (ns + 1)) : fX12_closes N s τ = some ((), nxS x n p (zsI τ 0 37 (nI ns))) := by
  rw [closesT h hs h17 hp hN, h37, nI_pred, nxS_sw (by omega)]
/-- a view with its nest changed -/
theorem RV_37 {x : Nat → Int32} {n tc : Nat} {G : gE} {L : lE} {tk : yTok} {c ns nd w ns' : Nat} {τ : zSt} (h : RV x n tc G L tk c ns nd w τ) : RV x n tc G L tk c ns' nd w (zsI τ 0 37 (nI ns')) := by
  obtain ⟨h1, h2, h3, h4, h5, h6, h7⟩ := h
  refine ⟨rS_fE (lo := 0) (w0 := 0) h1 (fE_I fE_refl (by omega)), ?_, ?_, ?_, ?_, ?_, ?_⟩
  · unfold rT; simp only [zI_I, zI_L, zI_R, zI_A, zI_B, zL_I, zL_L, zL_R, zL_A, zL_B, zA_I, zA_L, zA_R, zA_A, zA_B, zB_I, zB_L, zB_R, zB_A, zB_B, reduceIte, Nat.reduceEqDiff, Nat.reduceEqDiff, false_and, and_false, true_and, and_true, ne_eq, not_false_eq_true, not_true_eq_false]; exact h2
  all_goals simp only [zI_I, zI_L, zI_R, zI_A, zI_B, zL_I, zL_L, zL_R, zL_A, zL_B, zA_I, zA_L, zA_R, zA_A, zA_B, zB_I, zB_L, zB_R, zB_A, zB_B, reduceIte, Nat.reduceEqDiff, Nat.reduceEqDiff, false_and, and_false, true_and, and_true, ne_eq, not_false_eq_true, not_true_eq_false]; try assumption
theorem RV_36 {x : Nat → Int32} {n tc : Nat} {G : gE} {L : lE} {tk : yTok} {c ns nd w c' : Nat} {τ : zSt} (h : RV x n tc G L tk c ns nd w τ) : RV x n tc G L tk c' ns nd w (zsI τ 0 36 (nI c')) := by
  obtain ⟨h1, h2, h3, h4, h5, h6, h7⟩ := h
  refine ⟨rS_fE (lo := 0) (w0 := 0) h1 (fE_I fE_refl (by omega)), ?_, ?_, ?_, ?_, ?_, ?_⟩
  · unfold rT; simp only [zI_I, zI_L, zI_R, zI_A, zI_B, zL_I, zL_L, zL_R, zL_A, zL_B, zA_I, zA_L, zA_R, zA_A, zA_B, zB_I, zB_L, zB_R, zB_A, zB_B, reduceIte, Nat.reduceEqDiff, Nat.reduceEqDiff, false_and, and_false, true_and, and_true, ne_eq, not_false_eq_true, not_true_eq_false]; exact h2
  all_goals simp only [zI_I, zI_L, zI_R, zI_A, zI_B, zL_I, zL_L, zL_R, zL_A, zL_B, zA_I, zA_L, zA_R, zA_A, zA_B, zB_I, zB_L, zB_R, zB_A, zB_B, reduceIte, Nat.reduceEqDiff, Nat.reduceEqDiff, false_and, and_false, true_and, and_true, ne_eq, not_false_eq_true, not_true_eq_false]; try assumption
theorem RV_54 {x : Nat → Int32} {n tc : Nat} {G : gE} {L : lE} {tk : yTok} {c ns nd w w' : Nat} {τ : zSt} (h : RV x n tc G L tk c ns nd w τ) : RV x n tc G L tk c ns nd w' (zsI τ 0 54 (nI w')) := by
  obtain ⟨h1, h2, h3, h4, h5, h6, h7⟩ := h
  refine ⟨rS_fE (lo := 0) (w0 := 0) h1 (fE_I fE_refl (by omega)), ?_, ?_, ?_, ?_, ?_, ?_⟩
  · unfold rT; simp only [zI_I, zI_L, zI_R, zI_A, zI_B, zL_I, zL_L, zL_R, zL_A, zL_B, zA_I, zA_L, zA_R, zA_A, zA_B, zB_I, zB_L, zB_R, zB_A, zB_B, reduceIte, Nat.reduceEqDiff, Nat.reduceEqDiff, false_and, and_false, true_and, and_true, ne_eq, not_false_eq_true, not_true_eq_false]; exact h2
  all_goals simp only [zI_I, zI_L, zI_R, zI_A, zI_B, zL_I, zL_L, zL_R, zL_A, zL_B, zA_I, zA_L, zA_R, zA_A, zA_B, zB_I, zB_L, zB_R, zB_A, zB_B, reduceIte, Nat.reduceEqDiff, Nat.reduceEqDiff, false_and, and_false, true_and, and_true, ne_eq, not_false_eq_true, not_true_eq_false]; try assumption
theorem RV_nd {x : Nat → Int32} {n tc : Nat} {G : gE} {L : lE} {tk : yTok} {c ns nd w : Nat} {k : Int32} {τ : zSt} (h : RV x n tc G L tk c ns nd w τ) : RV x n tc G L tk c ns (nd + 1) w (ndS τ k nd) := by
  obtain ⟨h1, h2, h3, h4, h5, h6, h7⟩ := h
  refine ⟨rS_fE (lo := nd) (w0 := 0) h1 (ndS_E fE_refl (Nat.le_refl _)), ?_, (ndS_I (by omega)).trans h3, (ndS_I (by omega)).trans h4, (ndS_I (by omega)).trans h5, ndS_38, (ndS_I (by omega)).trans h7⟩
  unfold rT
  rw [ndS_I (by omega), ndS_I (by omega), ndS_I (by omega), ndS_L]
  exact h2
theorem RV_A {x : Nat → Int32} {n tc : Nat} {G : gE} {L : lE} {tk : yTok} {c ns nd w a i : Nat} {v : Int32} {τ : zSt} (h : RV x n tc G L tk c ns nd w τ) (ha : 15 ≤ a ∧ a ≤ 33) : RV x n tc G L tk c ns nd w (zsA τ a i v) := by
  obtain ⟨⟨⟨h1, h1b, h1c⟩, a1, a2, a3, a4, a5⟩, h2⟩ := h
  refine ⟨⟨⟨h1, h1b, fun j hj => ?_⟩, a1, a2, fun g hg => ?_, a4, fun j hj => ?_⟩, h2⟩
  · rw [zA_A, if_neg (by omega)]; exact h1c j hj
  · rw [zB_A, zA_A, if_neg (by omega), zA_A, if_neg (by omega), zA_A, if_neg (by omega)]; exact a3 g hg
  · rw [zB_A, zA_A, if_neg (by omega)]; exact a5 j hj
theorem RV_wt {x : Nat → Int32} {n tc : Nat} {G : gE} {L : lE} {tk : yTok} {c ns nd w : Nat} {k m l : Int32} {τ : zSt} (h : RV x n tc G L tk c ns nd w τ) : RV x n tc G L tk c ns nd (w + 1) (wtS τ w k m l) := by
  unfold wtS
  exact RV_54 (RV_A (RV_A (RV_A (RV_A (RV_A h (by omega)) (by omega)) (by omega)) (by omega)) (by omega))
theorem RV_n {x : Nat → Int32} {n tc : Nat} {G : gE} {L : lE} {tk t1 : yTok} {c ns nd w : Nat} {τ : zSt} (h : cm x n tk = .ok t1) (hr : RV x n tc G L tk c ns nd w τ) : RV x n tc G L t1 c ns nd w (nxS x n tk.1 τ) :=
  RV_nx h hr.1 hr.2.2.1 hr.2.2.2.1 hr.2.2.2.2.1 hr.2.2.2.2.2.1 hr.2.2.2.2.2.2
theorem nextV {x : Nat → Int32} {n tc N : Nat} {G : gE} {L : lE} {tk : yTok} {c ns nd w : Nat} {τ : zSt} (hr : RV x n tc G L tk c ns nd w τ) (ht : tk.1 ≤ n) (hN : n + 20 ≤ N) : fX12_next N τ = some ((), nxS x n tk.1 τ) := nx_eq hr.1.1 hr.2.1.1 ht hN
theorem RV_rD {x : Nat → Int32} {n tc : Nat} {G : gE} {L : lE} {tk : yTok} {c ns nd w : Nat} {τ : zSt} (h : RV x n tc G L tk c ns nd w τ) (ht : tk.1 ≤ n) (hd : nd ≤ 1100) : rD x n 1100 τ := ⟨h.1.1, ⟨tk.1, ht, h.2.1.1⟩, nd, hd, h.2.2.2.2.2.1⟩
/-- the same, with a view of the state -/
theorem penV {x : Nat → Int32} {n tc N m v lo i0 w lw nd ns c : Nat} {G : gE} {L : lE} {cl e : Int32} {τ u : zSt} {Q : Int32 → zSt → Prop} {l ops : yOps} {tk : yTok} (hn : n ≤ 512) (hN : 5000 ≤ N) (hK : STK u v lo cl l ops w lw nd) (hV : RV x n tc G L tk c ns nd w u) (hc : cm x n tk = .error e) (hw : w ≤ 1299) (hns : l.length ≤ ns) (hnd : nd ≤ 1100) (htk : tk.1 ≤ n) (hi : i0 < 4200) (hp : fP τ u) (h29 : zA u 29 v = zA τ 29 v) (hm : 2 ≤ m) (hQ : ∀ r z, FO x n e v cl τ z → Q r z) : wp (fX12_works_b2 N m (nI i0) (nxS x n tk.1 u)) Q := by
  obtain ⟨m, rfl⟩ : ∃ g, m = g + 2 := ⟨m - 2, by omega⟩
  exact penF hn hN hK hc (cm_ne hn hc htk) hV.2.2.1 hV.2.2.2.2.2.2 hw hV.2.2.2.2.1 hns hV.1.1 hV.2.2.2.2.2.1 (by omega) htk hi hp h29 hQ
/-- something is wrong: the works end -/
theorem deadV {x : Nat → Int32} {n b N m v : Nat} {cl e : Int32} {r : Int32} {τ u : zSt} {Q : Int32 → zSt → Prop} (hf : FXb x n b e τ u) (hb : b ≤ 1200) (he : e ≠ 0) (hm : 1 ≤ m) (hQ : ∀ r z, FO x n e v cl τ z → Q r z) : wp (fX12_works_b2 N m r u) Q := by
  obtain ⟨m, rfl⟩ : ∃ g, m = g + 1 := ⟨m - 1, by omega⟩
  exact wkE (by rw [hf.1]; exact he) (fun r => hQ r _ (Or.inl (FX_le hf hb)))
theorem part48 {N : Nat} {τ : zSt} (h21 : zI τ 0 21 = 0) (hK : rK τ 48) : fX12_part N τ = obd (fX12_four N (zI τ 0 18) τ) (fun _ u1 => obd (fX12_node N 10 u1) (fun r u2 => obd (fX12_next N u2) (fun _ u3 => obd (fX12_opens N 40 u3) (fun _ u4 => obd (fX12_closes N 41 u4) (fun _ u5 => some (r, u5)))))) := by
  unfold fX12_part
  rw [bnd_e, isSignF (sF22 h21 hK (by decide)), obd_s, if_pos rfl, isSignF (sF25 h21 hK (by decide)), obd_s, if_pos rfl, isSignF (sF26 h21 hK (by decide)), obd_s, if_pos rfl, if_neg (fun q => absurd ((kd41 hK.1 hK.2).mp q) (by decide)), isWordT ((wB48 h21 hK).mpr rfl), obd_s, if_neg (by decide)]
theorem opRead {x : Nat → Int32} {n tc : Nat} {G : gE} {L : lE} {N : Nat} {R : yRec} {tk : yTok} {c ns nd w v lo lw m : Nat} {cl : Int32} {l ops : yOps} {τ : zSt} {Q : Int32 → zSt → Prop} (hn : n ≤ 512) (hN : 5000 ≤ N) (hV : RV x n tc G L tk c ns nd w τ) (hB : BD n tc tk c ns nd w) (hS : STK τ v lo cl l ops w lw nd) (hl : l.length ≤ ns) (hm : n + 5 ≤ m + tk.2.1) (hk : tk.2.2.1 = 48)
    (hok : OK1 x n tc G L N tk ns nd w τ Q (yOper x n tc R G L ns tk c)) (her : ER1 x n v cl τ Q (yOper x n tc R G L ns tk c)) : wp (fX12_works_b2 N m (-1) τ) Q := by
  have hD := RV_D hV hB hn
  obtain ⟨b1, b2, b3, b4, b5, b6⟩ := hB
  have hlt := tk_ne b1 hk (by decide)
  have hb11 := b1.2.1
  have hw := STK_w hS
  have hK := rT_K hV.2.1
  rw [hk] at hK
  obtain ⟨m, rfl⟩ : ∃ g, m = g + 1 := ⟨m - 1, by omega⟩
  obtain ⟨w', rfl⟩ : ∃ g, w = g + 1 := ⟨w - 1, by omega⟩
  rw [wkN hV.2.2.1 hV.2.2.2.2.2.2 (by omega), part48 hV.2.2.1 hK, hV.2.1.2.1]
  have hp4 : tk.2.1 ≤ 4096 := by omega
  have hyo : yOper x n tc R G L ns tk c = xb (fo tc c tk.2.1) (fun c1 => xb (cm x n tk) (fun t1 => xb (need 49 t1) (fun _ => xb (ne ns t1.2.1) (fun _ => xb (cm x n t1) (fun t2 => xb (need 50 t2) (fun _ => xb (cm x n t2) (fun t3 => .ok (fN 10 0 0 fZ fZ fZ, t3, c1, none)))))))) := by
    unfold yOper
    rw [if_neg (by rw [hk]; decide), if_neg (by rw [hk]; decide), if_pos hk]
  rw [hyo] at hok her
  cases hfo : fo tc c tk.2.1 with
  | error e =>
    rw [hfo, xb_e] at her
    have he0 : e ≠ 0 := fo_ne hfo hp4
    have hfx : FXb x n 1100 e τ (nxS x n tk.1 (ndS (zsI (zsI τ 0 21 e) 0 36 (nI (c + 4))) 10 nd)) := FX_nx (FX_nd (FX_I (FX_mk hD) (by omega)) (by omega)) b1.2.1
    have h0 := hfx.1
    rw [fourE hfo hV.2.2.1 hV.2.2.2.1 hV.1.2.1 (by omega), obd_s, nodeR (d := nd) (by simp only [zI_I, zI_L, zI_R, zI_A, zI_B, zL_I, zL_L, zL_R, zL_A, zL_B, zA_I, zA_L, zA_R, zA_A, zA_B, zB_I, zB_L, zB_R, zB_A, zB_B, reduceIte, Nat.reduceEqDiff, Nat.reduceEqDiff, false_and, and_false, true_and, and_true, ne_eq, not_false_eq_true, not_true_eq_false]; exact hV.2.2.2.2.2.1) (by omega), obd_s, nx_eq (x := x) (n := n) (p := tk.1) (srcR_fP hV.1.1 (ndS_P (fP_I (fP_I fP_refl (by omega)) (by omega)))) (by rw [ndS_I (by omega)]; simp only [zI_I, zI_L, zI_R, zI_A, zI_B, zL_I, zL_L, zL_R, zL_A, zL_B, zA_I, zA_L, zA_R, zA_A, zA_B, zB_I, zB_L, zB_R, zB_A, zB_B, reduceIte, Nat.reduceEqDiff, Nat.reduceEqDiff, false_and, and_false, true_and, and_true, ne_eq, not_false_eq_true, not_true_eq_false]; exact hV.2.1.1) b1.2.1 (by omega), obd_s, opensD (by rw [h0]; exact he0), obd_s, closesD (by rw [h0]; exact he0), obd_s, obd_s]
    exact deadV (FX_I (k := 37) hfx (by omega)) (by omega) he0 (by omega) (fun r z => her e r z rfl he0)
  | ok c1 =>
    rw [hfo, xb_k] at her hok
    obtain ⟨hc1, hc2⟩ := fo_kk hfo
    have hE1 : fE nd (w' + 1) τ (ndS (zsI τ 0 36 (nI c1)) 10 nd) := ndS_E (fE_I fE_refl (by omega)) (Nat.le_refl _)
    have hV1 : RV x n tc G L tk c1 ns (nd + 1) (w' + 1) (ndS (zsI τ 0 36 (nI c1)) 10 nd) := RV_nd (RV_36 hV)
    rw [fourT hfo hV.2.2.2.1 hV.1.2.1 b3, obd_s, nodeR (d := nd) (by simp only [zI_I, zI_L, zI_R, zI_A, zI_B, zL_I, zL_L, zL_R, zL_A, zL_B, zA_I, zA_L, zA_R, zA_A, zA_B, zB_I, zB_L, zB_R, zB_A, zB_B, reduceIte, Nat.reduceEqDiff, Nat.reduceEqDiff, false_and, and_false, true_and, and_true, ne_eq, not_false_eq_true, not_true_eq_false]; exact hV.2.2.2.2.2.1) (by omega), obd_s, nextV hV1 b1.2.1 (by omega), obd_s]
    have hrep : ∀ z : zSt, (∀ a, zA z a nd = zA (ndS (zsI τ 0 36 (nI c1)) 10 nd) a nd) → rep z (fN 10 0 0 fZ fZ fZ) nd (nd + 1) (nI nd) ∧ zA z 21 nd = -1 := by
      intro z hz
      refine ⟨?_, by rw [hz, nd21]⟩
      refine rep_0 rfl (by decide) (by omega) ?_ ?_ ?_ ?_ ?_ ?_
      · rw [hz, nd15]; rfl
      · rw [hz, nd19]; rfl
      · rw [hz, nd20]; rfl
      · rw [hz, nd16]
      · rw [hz, nd17]
      · rw [hz, nd18]
    revert hE1 hV1 hrep
    generalize ndS (zsI τ 0 36 (nI c1)) 10 nd = s
    intro hE1 hV1 hrep
    cases hcm : cm x n tk with
    | error e =>
      rw [hcm, xb_e] at her
      have he0 := cm_ne hn hcm b1.2.1
      have hpd := PD_nx (τ := s) hcm hV1.2.2.1
      have hfx : FXb x n 1100 e τ (zsI (nxS x n tk.1 s) 0 21 e) := FX_tr (FX_mk (rD_nx (RV_rD hV1 b1.2.1 (by omega)) b1.2.1)) (nxS_P (fE_P hE1))
      rw [opensF (sF49 hpd.1 (PD_K hpd) (by decide)), obd_s, stS_eq hpd.1, stE_P hpd, closesD (by rw [hfx.1]; exact he0), obd_s, obd_s]
      exact deadV (FX_I (k := 37) hfx (by omega)) (by omega) he0 (by omega) (fun r z => her e r z rfl he0)
    | ok t1 =>
      rw [hcm, xb_k] at her hok
      have ht1 := sat_get (cm_ok (x := x) (n := n) (t := tk) (by omega) b1.2.1) hcm
      have hh1 := ht1.2
      have hq1 := ht1.1.1
      have hq2 := ht1.1.2.1
      have hV2 := RV_n hcm hV1
      have hE2 : fE nd (w' + 1) τ (nxS x n tk.1 s) := nxS_E hE1
      have hz2 : ∀ a, zA (nxS x n tk.1 s) a nd = zA s a nd := fun a => nxS_A
      revert hV2 hE2 hz2
      generalize nxS x n tk.1 s = s2
      intro hV2 hE2 hz2
      have hK1 := rT_K hV2.2.1
      have hD2 := RV_rD hV2 hq2 (by omega)
      cases hnd : need 49 t1 with
      | error e =>
        rw [hnd, xb_e] at her
        have he0 := need_ne hnd (by omega)
        obtain ⟨ee, hk1⟩ := need_ee hnd
        have hst : stE s2 = e := by rw [ee]; exact stE_T hV2.2.1 ht1.1.2.2.2
        have hfx : FXb x n 1100 e τ (zsI s2 0 21 e) := FX_tr (FX_mk hD2) (fE_P hE2)
        rw [opensF (sF49 hV2.2.2.1 hK1 hk1), obd_s, stS_eq hV2.2.2.1, hst, closesD (by rw [hfx.1]; exact he0), obd_s, obd_s]
        exact deadV (FX_I (k := 37) hfx (by omega)) (by omega) he0 (by omega) (fun r z => her e r z rfl he0)
      | ok y =>
        rw [hnd, xb_k] at her hok
        have hk1 := need_kk hnd
        have hsg := (sB49 hV2.2.2.1 hK1).mpr hk1
        have hlt1 := tk_ne ht1.1 hk1 (by decide)
        cases hne : ne ns t1.2.1 with
        | error e =>
          rw [hne, xb_e] at her
          have he0 := ne_ne hne (by omega)
          have hfx : FXb x n 1100 e τ (zsI (zsI s2 0 21 e) 0 37 (nI (ns + 1))) := FX_tr (FX_I (FX_mk hD2) (by omega)) (fE_P hE2)
          rw [opensE hne he0 hsg hV2.2.2.1 hV2.2.2.2.2.1 hV2.2.1.2.1, obd_s, closesD (by rw [hfx.1]; exact he0), obd_s, obd_s]
          exact deadV (FX_I (k := 37) hfx (by omega)) (by omega) he0 (by omega) (fun r z => her e r z rfl he0)
        | ok y2 =>
          rw [hne, xb_k] at her hok
          rw [opensT hne hsg hV2.2.2.1 hV2.2.2.2.2.1 b4 hV2.1.1 hV2.2.1.1 hq2 (by omega), obd_s]
          have hV3 : RV x n tc G L t1 c1 (ns + 1) (nd + 1) (w' + 1) (zsI s2 0 37 (nI (ns + 1))) := RV_37 hV2
          have hE3 : fE nd (w' + 1) τ (zsI s2 0 37 (nI (ns + 1))) := fE_I hE2 (by omega)
          have hz3 : ∀ a, zA (zsI s2 0 37 (nI (ns + 1))) a nd = zA s a nd := fun a => (zA_I ..).trans (hz2 a)
          revert hV3 hE3 hz3
          generalize zsI s2 0 37 (nI (ns + 1)) = s3
          intro hV3 hE3 hz3
          cases hcm1 : cm x n t1 with
          | error e =>
            rw [hcm1, xb_e] at her
            have he0 := cm_ne hn hcm1 hq2
            have hpd := PD_nx (τ := s3) hcm1 hV3.2.2.1
            have hfx : FXb x n 1100 e τ (zsI (nxS x n t1.1 s3) 0 21 e) := FX_tr (FX_mk (rD_nx (RV_rD hV3 hq2 (by omega)) hq2)) (nxS_P (fE_P hE3))
            rw [closesF (sF50 hpd.1 (PD_K hpd) (by decide)), obd_s, obd_s, stS_eq hpd.1, stE_P hpd]
            exact deadV (FX_I (k := 37) hfx (by omega)) (by omega) he0 (by omega) (fun r z => her e r z rfl he0)
          | ok t2 =>
            rw [hcm1, xb_k] at her hok
            have ht2 := sat_get (cm_ok (x := x) (n := n) (t := t1) (by omega) hq2) hcm1
            have hh2 := ht2.2
            have hq3 := ht2.1.1
            have hq4 := ht2.1.2.1
            have hV4 := RV_n hcm1 hV3
            have hE4 : fE nd (w' + 1) τ (nxS x n t1.1 s3) := nxS_E hE3
            have hz4 : ∀ a, zA (nxS x n t1.1 s3) a nd = zA s a nd := fun a => nxS_A.trans (hz3 a)
            revert hV4 hE4 hz4
            generalize nxS x n t1.1 s3 = s4
            intro hV4 hE4 hz4
            have hK2 := rT_K hV4.2.1
            cases hnd2 : need 50 t2 with
            | error e =>
              rw [hnd2, xb_e] at her
              have he0 := need_ne hnd2 (by omega)
              obtain ⟨ee, hk2⟩ := need_ee hnd2
              have hst : stE s4 = e := by rw [ee]; exact stE_T hV4.2.1 ht2.1.2.2.2
              have hfx : FXb x n 1100 e τ (zsI s4 0 21 e) := FX_tr (FX_mk (RV_rD hV4 hq4 (by omega))) (fE_P hE4)
              rw [closesF (sF50 hV4.2.2.1 hK2 hk2), obd_s, obd_s, stS_eq hV4.2.2.1, hst]
              exact deadV (FX_I (k := 37) hfx (by omega)) (by omega) he0 (by omega) (fun r z => her e r z rfl he0)
            | ok y3 =>
              rw [hnd2, xb_k] at her hok
              have hk2 := need_kk hnd2
              rw [closesT2 ((sB50 hV4.2.2.1 hK2).mpr hk2) hV4.1.1 hV4.2.1.1 hq4 (by omega) hV4.2.2.2.2.1, obd_s, obd_s]
              have hV5 : RV x n tc G L t2 c1 ns (nd + 1) (w' + 1) (zsI s4 0 37 (nI ns)) := RV_37 hV4
              have hE5 : fE nd (w' + 1) τ (zsI s4 0 37 (nI ns)) := fE_I hE4 (by omega)
              cases hcm2 : cm x n t2 with
              | error e =>
                rw [hcm2, xb_e] at her
                exact penV hn hN (STK_fE (nd' := nd + 1) hS hE5 (by omega)) hV5 hcm2 (by omega) hl (by omega) hq4 (by omega) (fE_P hE5) (hE5.2.1 29 v (by omega) (by omega)) (by omega) (fun r z hz => her e r z rfl (cm_ne hn hcm2 hq4) hz)
              | ok t3 =>
                rw [hcm2, xb_k] at hok
                have ht3 := sat_get (cm_ok (x := x) (n := n) (t := t2) (by omega) hq4) hcm2
                have hh3 := ht3.2
                exact hok _ t3 c1 nd (nd + 1) m _ rfl (RV_n hcm2 hV5) ⟨ht3.1, by omega, b3, b4, by omega, by omega⟩ (nxS_E hE5) (by omega) (hrep _ (fun a => (nxS_A.trans (zA_I ..)).trans (hz4 a))).1 (hrep _ (fun a => (nxS_A.trans (zA_I ..)).trans (hz4 a))).2 (by omega) (by omega) (by omega)
