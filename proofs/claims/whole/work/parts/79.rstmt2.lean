/-! THE REFERENCE'S READER: S whole-/
theorem st51 {N : Nat} {τ : zSt} (h21 : zI τ 0 21 = 0) (hK : rK τ 51) : fX12_statement N τ = if zI τ 0 37 = 40 then obd (fX12_fails N 8 (zI τ 0 18) τ) (fun _ u => fX12_statement_b39 N (zI τ 0 18) u) else fX12_statement_b39 N (zI τ 0 18) τ := by
  unfold fX12_statement
  rw [isWellT h21, obd_s, if_neg (by decide), bnd_e, isSignT ((sB51 h21 hK).mpr rfl), obd_s, if_neg (by decide)]
theorem st43 {N : Nat} {τ : zSt} (h21 : zI τ 0 21 = 0) {K : Int32} (hK : rK τ K) (h : K = 43 ∨ K = 45) : fX12_statement N τ = obd (fX12_branch N τ) (fun r u => some (r, u)) := by
  unfold fX12_statement
  rw [isWellT h21, obd_s, if_neg (by decide), bnd_e, isSignF (sF51 h21 hK (by rcases h with rfl | rfl <;> decide)), obd_s, if_pos rfl]
  by_cases h1 : K = 43
  · rw [isWordT ((wB43 h21 hK).mpr h1), obd_s, if_neg (by decide)]; rfl
  · rw [isWordF (wF43 h21 hK h1), obd_s, if_pos rfl]
    rcases h with h | h
    · exact (h1 h).elim
    · rw [isWordT ((wB45 h21 hK).mpr h), obd_s, if_neg (by decide)]; rfl
theorem stNo {N : Nat} {τ : zSt} {K : Int32} (h21 : zI τ 0 21 = 0) (hK : rK τ K) (h : K ≠ 51 ∧ K ≠ 43 ∧ K ≠ 45 ∧ K ≠ 46 ∧ K ≠ 47 ∧ K ≠ 56 ∧ K ≠ 40) : fX12_statement N τ = some (-1, zsI τ 0 21 (stE τ)) := by
  obtain ⟨p1, p2, p3, p4, p5, p6, p7⟩ := h
  unfold fX12_statement
  rw [isWellT h21, obd_s, if_neg (by decide), bnd_e, isSignF (sF51 h21 hK p1), obd_s, if_pos rfl, isWordF (wF43 h21 hK p2), obd_s, if_pos rfl, isWordF (wF45 h21 hK p3), obd_s, if_pos rfl, isWordF (wF46 h21 hK p4), obd_s, if_pos rfl, isWordF (wF47 h21 hK p5), obd_s, if_pos rfl, isSignF (sF56 h21 hK p6), obd_s, if_pos rfl, isWellT h21, obd_s, if_neg (by decide), if_neg (fun q => p7 ((kd40 hK.1 hK.2).mp q))]
  unfold fX12_statement_b225
  rw [strayR, stS_eq h21, obd_s]
/-- the head of if and while: up to the S -/
def yHd (x : Nat → Int32) (n tc : Nat) (G : gE) (ns : Nat) (L : lE) (tk : yTok) (c : Nat) : Except Int32 (fT × yTok × Nat) :=
  xb (ne ns tk.2.1) (fun _ => xb (fo tc c tk.2.1) (fun c1 => xb (cm x n tk) (fun t1 => yBr x n (yE x n tc G L 42) (ns + 1) t1 c1)))
def enS (z : zSt) (o nd : Nat) (kd : Int32) : zSt := zsI (zsA (zsA z 22 o kd) 23 o (nI nd)) 0 46 (nI (o + 1))
theorem branchR {x : Nat → Int32} {n tc : Nat} {G : gE} {L : lE} {N fn : Nat} {tk : yTok} {c ns nd bf pl ms o : Nat} {K : Int32} {τ : zSt} {Q : Int32 → zSt → Prop} (hn : n ≤ 512) (hN : 5000 ≤ N) (hG : G.2.2.2.2 ≤ 1400) (hV : SB x n tc G L tk c ns nd bf pl fn ms o τ) (hB : BD n tc tk c ns nd 0) (ho : o ≤ ns) (hk : tk.2.2.1 = K) (hKK : K = 43 ∨ K = 45) (hL : L.2.2 ≤ tk.2.1) (h0 : yHd x n tc G ns L tk c ≠ .error 0)
    (hok : ∀ t tk' c' i nd' u, yHd x n tc G ns L tk c = .ok (t, tk', c') → SB x n tc G L tk' c' (ns + 1) nd' bf pl fn ms o u → BD n tc tk' c' (ns + 1) nd' 0 → fE nd 0 τ u → nd + 1 ≤ nd' → zA u 15 nd = (if K = 45 then 23 else 22) → zA u 16 nd = nI i → rep u t (nd + 1) nd' (nI i) → zA u 17 nd = -1 → zA u 18 nd = -1 → zA u 19 nd = 0 → zA u 20 nd = 0 → zA u 21 nd = -1 → tk.2.1 + 2 ≤ tk'.2.1 → Q (-1) (enS u o nd (if K = 45 then 3 else 1)))
    (hpen : ∀ e u, yHd x n tc G ns L tk c = .error e → e ≠ 0 → PD e u → rD x n 1100 u → fE nd 0 τ u → Q (-1) (enS u o nd (if K = 45 then 3 else 1)))
    (her : ∀ e u, yHd x n tc G ns L tk c = .error e → e ≠ 0 → FXb x n 1200 e τ u → Q (-1) u) : wp (fX12_branch N τ) Q := by
  have hBl := BD_le hB hn
  obtain ⟨b1, b2, b3, b4, b5, b6⟩ := hB
  have hD := SV_rD hV.1 b1.2.1 (by omega)
  have hK := rT_K hV.1.2.1
  have hlt := tk_ne b1 hk (by rcases hKK with rfl | rfl <;> decide)
  -- which one
  obtain ⟨r1, hr1, hsel⟩ : ∃ r1 : Int32, fX12_isWord N 3 τ = some (r1, τ) ∧ (r1 = 0 ↔ K ≠ 45) := by
    by_cases e : K = 45
    · exact ⟨1, isWordT ((wB45 hV.1.2.2.1 hK).mpr (hk.trans e)), ⟨fun q => absurd q (by decide), fun q => (q e).elim⟩⟩
    · exact ⟨0, isWordF (wF45 hV.1.2.2.1 hK (by rw [hk]; exact e)), ⟨fun _ => e, fun _ => rfl⟩⟩
  have hform : fX12_branch N τ = obd (fX12_nests N τ) (fun _ u => obd (fX12_four N (nI tk.2.1) u) (fun _ u => obd (fX12_node N (if K = 45 then 23 else 22) u) (fun r8 u => obd (fX12_next N u) (fun _ u => obd (fX12_opens N 40 u) (fun _ u => obd (fX12_expression N 41 u) (fun r14 u => if r8 < 0 ∨ 4200 ≤ r8.toNatClampNeg then none else bnd (zsA u 16 r8.toNatClampNeg r14) (fun u => obd (fX12_closes N 41 u) (fun _ u => obd (fX12_isWell N u) (fun r19 u => if r19 = 0 then some ((-1 : Int32), u) else fX12_branch_b81 N r8 (if K = 45 then 3 else 1) u))))))))) := by
    unfold fX12_branch fX12_branch_b32
    rw [hr1, obd_s, bnd_e, hV.1.2.1.2.1]
    by_cases e : K = 45
    · have : ¬ r1 = 0 := fun q => hsel.mp q e
      simp only [if_neg this, if_pos e]
    · have : r1 = 0 := hsel.mpr e
      simp only [if_pos this, if_neg e]
  rw [hform]
  generalize (if K = 45 then (23 : Int32) else 22) = kk at *
  generalize (if K = 45 then (3 : Int32) else 1) = ke at *
  -- how it ends
  have fin : ∀ (u : zSt), zI u 0 21 = 0 → zI u 0 46 = nI o → obd (fX12_isWell N u) (fun r19 u => if r19 = 0 then some ((-1 : Int32), u) else fX12_branch_b81 N (nI nd) ke u) = some (-1, enS u o nd ke) := by
    intro u h21 h46
    unfold fX12_branch_b81 fX12_enter enS
    rw [isWellT h21, obd_s, if_neg (by decide), h46, nI_clamp (by omega), if_neg (ixN (show o < 100 by omega) (by omega)), bnd_e, zI_A, h46, nI_clamp (by omega), if_neg (ixN (show o < 100 by omega) (by omega)), bnd_e, zI_A, zI_A, h46, bnd_e, nI_1, obd_s]
  have finD : ∀ (e : Int32) (u : zSt), e ≠ 0 → yHd x n tc G ns L tk c = .error e → FXb x n 1200 e τ u → wp (obd (fX12_isWell N u) (fun r19 u => if r19 = 0 then some ((-1 : Int32), u) else fX12_branch_b81 N (nI nd) ke u)) Q := by
    intro e u he0 hres hfx
    rw [isWellF (by rw [hfx.1]; exact he0), obd_s, if_pos rfl]
    exact wp_s (her e u hres he0 hfx)
  have up : ∀ {e : Int32} {u : zSt}, FXb x n 1100 e τ u → FXb x n 1200 e τ u := fun h => ⟨h.1, rD_le h.2.1 (by omega), h.2.2⟩
  cases hne : ne ns tk.2.1 with
  | error e =>
    have he0 := ne_ne hne (by omega)
    have hyh : yHd x n tc G ns L tk c = .error e := by unfold yHd; rw [hne]; rfl
    have hfx : FXb x n 1100 e τ (zsI (zsI τ 0 21 e) 0 37 (nI (ns + 1))) := FX_I (FX_mk hD) (by omega)
    have hf2 := FX_I (k := 36) (v := zI (zsI (zsI τ 0 21 e) 0 37 (nI (ns + 1))) 0 36 + 4) hfx (by omega)
    rw [nestsE hne hV.1.2.2.1 hV.1.2.2.2.2.1 hV.1.2.1.2.1, obd_s, fourD (by rw [hfx.1]; exact he0), obd_s, nodeR (d := nd) (by simp only [zI_I, zI_L, zI_R, zI_A, zI_B, zL_I, zL_L, zL_R, zL_A, zL_B, zA_I, zA_L, zA_R, zA_A, zA_B, zB_I, zB_L, zB_R, zB_A, zB_B, reduceIte, Nat.reduceEqDiff, Nat.reduceEqDiff, false_and, and_false, true_and, and_true, ne_eq, not_false_eq_true, not_true_eq_false]; exact hV.1.2.2.2.2.2) (by omega), obd_s]
    have hf3 := FX_nd (k := kk) (d := nd) hf2 (by omega)
    rw [nx_eq (x := x) (n := n) (p := tk.1) hf3.2.1.1 (by rw [ndS_I (by omega)]; simp only [zI_I, zI_L, zI_R, zI_A, zI_B, zL_I, zL_L, zL_R, zL_A, zL_B, zA_I, zA_L, zA_R, zA_A, zA_B, zB_I, zB_L, zB_R, zB_A, zB_B, reduceIte, Nat.reduceEqDiff, Nat.reduceEqDiff, false_and, and_false, true_and, and_true, ne_eq, not_false_eq_true, not_true_eq_false]; exact hV.1.2.1.1) b1.2.1 (by omega), obd_s]
    exact brD hN (FX_nx hf3 b1.2.1) he0 (by omega) (fun z hz => finD e z he0 hyh (up hz))
  | ok y =>
    have hns := ne_kk hne
    rw [nestsT hne hV.1.2.2.2.2.1 b4, obd_s]
    have hV1 : SB x n tc G L tk c (ns + 1) nd bf pl fn ms o (zsI τ 0 37 (nI (ns + 1))) := SB_37 hV
    have hE1 : fE nd 0 τ (zsI τ 0 37 (nI (ns + 1))) := fE_I fE_refl (by omega)
    revert hV1 hE1
    generalize zsI τ 0 37 (nI (ns + 1)) = s1
    intro hV1 hE1
    refine headR (ns := ns + 1) hn hN hV1.1 ⟨b1, b2, b3, by omega, b5, b6⟩ (by rw [hk]; rcases hKK with rfl | rfl <;> decide) ?_ ?_ ?_
    · intro c1 t1 u hf hc hVu hBu hEu hFu hplu
      have hyh : yHd x n tc G ns L tk c = yBr x n (yE x n tc G L 42) (ns + 1) t1 c1 := by unfold yHd; rw [hne, xb_k, hf, xb_k, hc, xb_k]
      refine brR (K := fun u => obd (fX12_isWell N u) (fun r19 u => if r19 = 0 then some ((-1 : Int32), u) else fX12_branch_b81 N (nI nd) ke u)) hn hN hG (by omega) hVu hBu (by omega) (by rw [← hyh]; exact h0) ?_ ?_ ?_
      · intro t tk' c' i nd' z hres hVz hBz hfz hndz hslot hrep hi hplz
        have hEz : fE nd 0 τ z := fE_trans (fE_trans hE1 hEu (Nat.le_refl _) (Nat.le_refl _)) (fX1_E (lo := nd) hfz (by omega) (by omega) (by omega)) (Nat.le_refl _) (Nat.le_refl _)
        have hSz : SB x n tc G L tk' c' (ns + 1) nd' bf pl fn ms o z := SB_fE hV hVz hEz
        rw [fin z hVz.2.2.1 hSz.2.2.2.2.2]
        have hzz : ∀ a, 15 ≤ a → a ≤ 21 → a ≠ 16 → zA z a nd = zA u a nd := fun a p1 p2 p3 => hfz.2.1 a nd (by omega) (by omega) (by omega)
        refine wp_s (hok t tk' c' i nd' z (hyh.trans hres) hSz hBz hEz (by omega) ?_ hslot hrep ?_ ?_ ?_ ?_ ?_ (by omega))
        · rw [hzz 15 (by omega) (by omega) (by omega)]; exact hFu.1
        · rw [hzz 17 (by omega) (by omega) (by omega)]; exact hFu.2.2.1
        · rw [hzz 18 (by omega) (by omega) (by omega)]; exact hFu.2.2.2.1
        · rw [hzz 19 (by omega) (by omega) (by omega)]; exact hFu.2.2.2.2.1
        · rw [hzz 20 (by omega) (by omega) (by omega)]; exact hFu.2.2.2.2.2.1
        · rw [hzz 21 (by omega) (by omega) (by omega)]; exact hFu.2.2.2.2.2.2
      · intro e z hres he0 hpd hr hfz
        have hEz : fE nd 0 τ z := fE_trans (fE_trans hE1 hEu (Nat.le_refl _) (Nat.le_refl _)) (fX1_E (lo := nd) hfz (by omega) (by omega) (by omega)) (Nat.le_refl _) (Nat.le_refl _)
        rw [fin z hpd.1 ((hEz.1 46 (by omega)).trans hV.2.2.2.2.2)]
        exact wp_s (hpen e z (hyh.trans hres) he0 hpd hr hEz)
      · intro e z hres he0 hfx
        exact finD e z he0 (hyh.trans hres) (FX_tr hfx (fE_P (fE_trans hE1 hEu (Nat.le_refl _) (Nat.le_refl _))))
    · intro e u hf he0 hfx
      have hyh : yHd x n tc G ns L tk c = .error e := by unfold yHd; rw [hne, xb_k, hf]; rfl
      exact brD hN hfx he0 (by omega) (fun z hz => finD e z he0 hyh (up (FX_tr hz (fE_P hE1))))
    · intro c1 e u hf hc he0 hpd hr hEu hFu
      have hyh : yHd x n tc G ns L tk c = .error e := by unfold yHd; rw [hne, xb_k, hf, xb_k, hc]; rfl
      exact brP hN hpd hr (fE_P hEu) he0 (by omega) (fun z hz => finD e z he0 hyh (FX_tr hz (fE_P hE1)))
theorem yIf_H {x : Nat → Int32} {n tc : Nat} {G : gE} {R : ySrec} {ns : Nat} {L : lE} {pl ms : Nat} {tk : yTok} {c : Nat} : yIf x n tc G R ns L pl ms tk c = xb (yHd x n tc G ns L tk c) (fun u => xb (R (ns + 1) L pl ms u.2.1 u.2.2) (fun s =>
  if s.2.1.2.2.1 = 44 then xb (ne (ns + 1) s.2.1.2.1) (fun _ => xb (cm x n s.2.1) (fun t3 => xb (R (ns + 2) L pl s.2.2.2 t3 s.2.2.1) (fun r => .ok (fN 22 0 0 u.1 s.1 r.1, r.2)))) else .ok (fN 22 0 0 u.1 s.1 fZ, s.2))) := by
  unfold yIf yHd
  rw [xb_as]
  cases ne ns tk.2.1 with
  | error e => rfl
  | ok y =>
    rw [xb_k, xb_k, xb_as]
    cases fo tc c tk.2.1 with
    | error e => rfl
    | ok c1 =>
      rw [xb_k, xb_k, xb_as]
theorem yWh_H {x : Nat → Int32} {n tc : Nat} {G : gE} {R : ySrec} {ns : Nat} {L : lE} {pl ms : Nat} {tk : yTok} {c : Nat} : yWh x n tc G R ns L pl ms tk c = xb (yHd x n tc G ns L tk c) (fun u => xb (R (ns + 1) L pl ms u.2.1 u.2.2) (fun s => .ok (fN 23 0 0 u.1 s.1 fZ, s.2))) := by
  unfold yWh yHd
  rw [xb_as]
  cases ne ns tk.2.1 with
  | error e => rfl
  | ok y =>
    rw [xb_k, xb_k, xb_as]
    cases fo tc c tk.2.1 with
    | error e => rfl
    | ok c1 =>
      rw [xb_k, xb_k, xb_as]
theorem enS_SB {x : Nat → Int32} {n tc : Nat} {G : gE} {L : lE} {tk : yTok} {c ns nd d bf pl fn ms o : Nat} {kd : Int32} {τ : zSt} (h : SB x n tc G L tk c ns nd bf pl fn ms o τ) : SB x n tc G L tk c ns nd bf pl fn ms (o + 1) (enS τ o d kd) := by
  have h1 := SB_A (a := 23) (i := o) (v := nI d) (SB_A (a := 22) (i := o) (v := kd) h (by omega)) (by omega)
  unfold enS
  revert h1
  generalize zsA (zsA τ 22 o kd) 23 o (nI d) = s
  rintro ⟨⟨r, t1, s1, s2, s3, s4⟩, h33, h34, h35, h12, h46⟩
  refine ⟨⟨⟨⟨?_, r.1.2.1, r.1.2.2⟩, ?_, ?_, r.2.2.2.1, ?_, r.2.2.2.2.2⟩, ?_, ?_, ?_, ?_, ?_⟩, ?_, ?_, ?_, h12, ?_⟩
  · rw [zI_I, if_neg (by omega)]; exact r.1.1
  · rw [zI_I, if_neg (by omega)]; exact r.2.1
  · rw [zI_I, if_neg (by omega)]; exact r.2.2.1
  · rw [zI_I, if_neg (by omega)]; exact r.2.2.2.2.1
  · unfold rT; simp only [zI_I, zI_L, zI_R, zI_A, zI_B, zL_I, zL_L, zL_R, zL_A, zL_B, zA_I, zA_L, zA_R, zA_A, zA_B, zB_I, zB_L, zB_R, zB_A, zB_B, reduceIte, Nat.reduceEqDiff, Nat.reduceEqDiff, false_and, and_false, true_and, and_true, ne_eq, not_false_eq_true, not_true_eq_false]; exact t1
  · rw [zI_I, if_neg (by omega)]; exact s1
  · rw [zI_I, if_neg (by omega)]; exact s2
  · rw [zI_I, if_neg (by omega)]; exact s3
  · rw [zI_I, if_neg (by omega)]; exact s4
  · rw [zI_I, if_neg (by omega)]; exact h33
  · rw [zI_I, if_neg (by omega)]; exact h34
  · rw [zI_I, if_neg (by omega)]; exact h35
  · rw [zI_I, if_pos ⟨rfl, rfl⟩]
theorem enS_A {z : zSt} {o d a i : Nat} {kd : Int32} (h : ¬ (22 ≤ a ∧ a ≤ 23 ∧ i = o)) : zA (enS z o d kd) a i = zA z a i := by
  unfold enS
  rw [zA_I, zA_A, if_neg (by omega), zA_A, if_neg (by omega)]
theorem enS_22 {z : zSt} {o d : Nat} {kd : Int32} : zA (enS z o d kd) 22 o = kd ∧ zA (enS z o d kd) 23 o = nI d := by
  unfold enS
  simp only [zI_I, zI_L, zI_R, zI_A, zI_B, zL_I, zL_L, zL_R, zL_A, zL_B, zA_I, zA_L, zA_R, zA_A, zA_B, zB_I, zB_L, zB_R, zB_A, zB_B, reduceIte, Nat.reduceEqDiff, Nat.reduceEqDiff, false_and, and_false, true_and, and_true, ne_eq, not_false_eq_true, not_true_eq_false, and_self]
theorem enS_I {z : zSt} {o d j : Nat} {kd : Int32} (h : j ≠ 46) : zI (enS z o d kd) 0 j = zI z 0 j := by
  unfold enS
  rw [zI_I, if_neg (by omega), zI_A, zI_A]
theorem enS_fB {z τ : zSt} {lo o d ln fn : Nat} {kd : Int32} (h : fB lo o ln fn τ z) : fB lo o ln fn τ (enS z o d kd) := by
  unfold enS
  exact fB_I (fB_A (fB_A h (by omega)) (by omega)) (by omega)
theorem enS_WS {z : zSt} {o d : Nat} {kd : Int32} (h : WS z o) (hd : d < 4200) (hk : kd = 1 ∨ kd = 2 ∨ kd = 3) (ho : 1 ≤ o) : WS (enS z o d kd) (o + 1) := by
  intro i hi
  by_cases e : i = o
  · subst e
    rw [enS_22.1, enS_22.2]
    refine ⟨⟨d, hd, rfl⟩, Or.inr hk, fun q => ?_, fun q => by omega⟩
    rcases hk with rfl | rfl | rfl <;> exact absurd q (by decide)
  · rw [enS_A (by omega), enS_A (by omega), enS_A (by omega), enS_A (by omega)]
    obtain ⟨w1, w2, w3, w4⟩ := h i (by omega)
    exact ⟨w1, w2, w3, fun q => by rw [enS_A (by omega)]; exact w4 q⟩
/-- an open branch whose S has ended -/
theorem inBrD {N o d i : Nat} {kd : Int32} {u : zSt} (h46 : zI u 0 46 = nI (o + 1)) (ho : o < 100) (h22 : zA u 22 o = kd) (h23 : zA u 23 o = nI d) (hd : d < 4200) (hi : i < 4200) : fX12_inBranch N (nI i) u = if kd = 2 then some (nI d, zsI (zsI (zsA u 18 d (nI i)) 0 37 (zI u 0 37 - 2)) 0 46 (nI o)) else if kd = 1 then obd (fX12_isWord N 2 (zsA u 17 d (nI i))) (fun r6 u7 => if r6 = 0 then some (nI d, zsI (zsI u7 0 37 (zI u7 0 37 - 1)) 0 46 (zI u7 0 46 - 1)) else obd (fX12_nests N u7) (fun _ u9 => obd (fX12_next N u9) (fun _ u11 => some (-1, zsA u11 22 o 2)))) else some (nI d, zsI (zsI (zsA u 17 d (nI i)) 0 37 (zI u 0 37 - 1)) 0 46 (nI o)) := by
  unfold fX12_inBranch fX12_inBranch_b104
  rw [if_pos (nI_pos' (by omega)), bnd_e, h46, nI_pred, nI_clamp (by omega), if_neg (ixN ho (by omega)), bnd_e, if_neg (ixN ho (by omega)), h22, h23, nI_clamp (by omega)]
  by_cases h2 : kd = 2
  · rw [if_pos h2, if_pos h2, if_neg (ixN hd (by omega)), bnd_e, bnd_e, bnd_e]
    have e46 : zI (zsI (zsA u 18 d (nI i)) 0 37 (zI (zsA u 18 d (nI i)) 0 37 - 2)) 0 46 = nI (o + 1) := by rw [zI_I, if_neg (by omega), zI_A]; exact h46
    rw [e46, nI_pred, zI_A]
  · rw [if_neg h2, if_neg h2, if_neg (ixN hd (by omega)), bnd_e, if_neg (ixN ho (by omega))]
    have e22 : zA (zsA u 17 d (nI i)) 22 o = kd := by rw [zA_A, if_neg (by omega)]; exact h22
    rw [e22]
    by_cases h1 : kd = 1
    · rw [if_pos h1, if_pos h1]
      have hb : ∀ u7 : zSt, zI (zsI u7 0 37 (zI u7 0 37 - 1)) 0 46 = zI u7 0 46 := fun u7 => by rw [zI_I, if_neg (by omega)]
      simp only [bnd_e, hb, if_neg (ixN ho (by omega))]
    · rw [if_neg h1, if_neg h1, bnd_e, bnd_e]
      have e46 : zI (zsI (zsA u 17 d (nI i)) 0 37 (zI (zsA u 17 d (nI i)) 0 37 - 1)) 0 46 = nI (o + 1) := by rw [zI_I, if_neg (by omega), zI_A]; exact h46
      rw [e46, nI_pred, zI_A]
