/-! THE REFERENCE'S READER: NAME = E ; NAME [ E ] = E ; NAME ( .. ) ; -/
theorem takes61 {x : Nat → Int32} {n tc : Nat} {G : gE} {L : lE} {N : Nat} {tk : yTok} {c ns nd : Nat} {u : zSt} (hV : SV x n tc G L tk c ns nd u) (hk : tk.2.2.1 = 57) (ht : tk.1 ≤ n) (hN : n + 20 ≤ N) : fX12_takes N 61 u = some ((), nxS x n tk.1 u) := by
  rw [takesR_yes ((sB57 hV.2.2.1 (rT_K hV.2.1)).mpr hk), nextS hV ht hN]
theorem asgEq {x : Nat → Int32} {n tc : Nat} {G : gE} {L : lE} {N : Nat} {tk t1 : yTok} {c1 ns nd ms : Nat} {q : Nat ⊕ Nat} {gi : Int32} {τ s : zSt} (hn : n ≤ 512) (hN : 5000 ≤ N) (hG : G.2.2.2.2 ≤ 1400) (hLn : L.2.2 ≤ 1400) (hq : (∃ j, q = .inl j ∧ j < L.2.2) ∨ (∃ g, q = .inr g ∧ g < G.2.2.2.2)) (hgi : ∀ g, q = .inr g → gi = nI g) (hkd : kdOf G q = 0) (hV : SV x n tc G L t1 c1 ns (nd + 1) s) (hB : BD n tc t1 c1 ns (nd + 1) 0) (hE : fE nd 0 τ s) (hF : ndF s nd 30) (hk : t1.2.2.1 = 57) (hpl : tk.2.1 < t1.2.1) (res : Except Int32 (fT × yTok × Nat × Nat))
    (hres : res = xb (cm x n t1) (fun t2 => xb (yE x n tc G L 42 ns 56 t2 c1) (fun u => xb (cm x n u.2.1) (fun t4 => .ok (asN G L q u.1, t4, u.2.2, ms))))) (h0 : res ≠ .error 0) :
    wp (if lxI q < 0 then fX12_assignment_b118 N (lxI q) gi (nI nd) 26 (nI nd) s else fX12_assignment_b118 N (lxI q) gi (nI nd) 27 (nI nd) s) (LQ x n tc G L tk ns nd ms τ res) := by
  have hBl := BD_le hB hn
  obtain ⟨b1, b2, b3, b4, b5, b6⟩ := hB
  have hlt := tk_ne b1 hk (by decide)
  -- the node
  obtain ⟨kk, vv, hform, hrepf⟩ : ∃ kk vv : Int32, (if lxI q < 0 then fX12_assignment_b118 N (lxI q) gi (nI nd) 26 (nI nd) s else fX12_assignment_b118 N (lxI q) gi (nI nd) 27 (nI nd) s) = fX12_assignment_b147 N (nI nd) vv (nI nd) (zsA s 15 nd kk) ∧ (∀ (z : zSt) (P : Nat) (t : fT), nd + 1 ≤ P → zA z 15 nd = kk → zA z 19 nd = vv → zA z 20 nd = 0 → zA z 17 nd = -1 → zA z 18 nd = -1 → rep z t (nd + 1) P (zA z 16 nd) → rep z (asN G L q t) nd P (nI nd)) := by
    rcases hq with ⟨j, rfl, hj⟩ | ⟨g, rfl, hg⟩
    · refine ⟨27, L.2.1 j, ?_, ?_⟩
      · rw [if_neg (show ¬ lxI (.inl j) < 0 from nI_pos (by omega))]
        unfold fX12_assignment_b118
        rw [nI_clamp (by omega), if_neg (ixN (show nd < 4200 by omega) (by omega)), bnd_e, if_neg (show ¬ lxI (.inl j) < 0 from nI_pos (by omega))]
        show (if nI j < 0 ∨ 1400 ≤ (nI j).toNatClampNeg then none else fX12_assignment_b147 N (nI nd) (zA (zsA s 15 nd 27) 14 (nI j).toNatClampNeg) (nI nd) (zsA s 15 nd 27)) = _
        rw [nI_clamp (by omega), if_neg (ixN (show j < 1400 by omega) (by omega)), zA_A, if_neg (by omega), (hV.1.2.2.2.2.2 j hj).2]
      · intro z P t p1 p2 p3 p4 p5 p6 p7
        show rep z (fN 27 (L.2.1 j).toInt 0 t fZ fZ) nd P (nI nd)
        exact rep_1 rfl (by decide) (by omega) p2 (by rw [p3, Int32.ofInt_toInt]) p4 p1 p7 p5 p6
    · refine ⟨26, G.2.2.1 g, ?_, ?_⟩
      · rw [if_pos (show lxI (.inr g) < 0 from (by decide : (-1 : Int32) < 0))]
        unfold fX12_assignment_b118
        rw [nI_clamp (show nd < 2 ^ 31 by omega), if_neg (ixN (show nd < 4200 by omega) (by omega)), bnd_e, if_pos (show lxI (.inr g) < 0 from (by decide : (-1 : Int32) < 0)), hgi g rfl, nI_clamp (show g < 2 ^ 31 by omega), if_neg (ixN (show g < 1400 by omega) (by omega)), zA_A, if_neg (by omega), (hV.1.2.2.2.1 g hg).2.2.2 (by rw [show G.2.1 g = 0 from hkd]; decide)]
      · intro z P t p1 p2 p3 p4 p5 p6 p7
        show rep z (fN 26 (G.2.2.1 g).toInt 0 t fZ fZ) nd P (nI nd)
        exact rep_1 rfl (by decide) (by omega) p2 (by rw [p3, Int32.ofInt_toInt]) p4 p1 p7 p5 p6
  rw [hform]
  unfold fX12_assignment_b147
  rw [nI_clamp (by omega), if_neg (ixN (show nd < 4200 by omega) (by omega)), bnd_e]
  have hV2 : SV x n tc G L t1 c1 ns (nd + 1) (zsA (zsA s 15 nd kk) 19 nd vv) := SV_A (SV_A hV (by omega)) (by omega)
  have hE2 : fE nd 0 τ (zsA (zsA s 15 nd kk) 19 nd vv) := fE_A (fE_A hE (by omega)) (by omega)
  have hF2 : zA (zsA (zsA s 15 nd kk) 19 nd vv) 15 nd = kk ∧ zA (zsA (zsA s 15 nd kk) 19 nd vv) 19 nd = vv ∧ zA (zsA (zsA s 15 nd kk) 19 nd vv) 20 nd = 0 ∧ zA (zsA (zsA s 15 nd kk) 19 nd vv) 17 nd = -1 ∧ zA (zsA (zsA s 15 nd kk) 19 nd vv) 18 nd = -1 ∧ zA (zsA (zsA s 15 nd kk) 19 nd vv) 21 nd = -1 := by
    simp only [zI_I, zI_L, zI_R, zI_A, zI_B, zL_I, zL_L, zL_R, zL_A, zL_B, zA_I, zA_L, zA_R, zA_A, zA_B, zB_I, zB_L, zB_R, zB_A, zB_B, reduceIte, Nat.reduceEqDiff, Nat.reduceEqDiff, false_and, and_false, true_and, and_true, ne_eq, not_false_eq_true, not_true_eq_false]
    exact ⟨hF.2.2.2.2.2.1, hF.2.2.1, hF.2.2.2.1, hF.2.2.2.2.2.2⟩
  revert hV2 hE2 hF2
  generalize zsA (zsA s 15 nd kk) 19 nd vv = s2
  intro hV2 hE2 hF2
  rw [nextS hV2 b1.2.1 (by omega), obd_s]
  subst hres
  cases hcm : cm x n t1 with
  | error e =>
    have he0 := cm_ne hn hcm b1.2.1
    have hx := exTP (cl := 56) (s := 59) (d0 := nd) (ar := 16) (K := fun u3 => some (nI nd, u3)) (τ := τ) (Q := LQ x n tc G L tk ns nd ms τ (xb (.error e) (fun t2 => xb (yE x n tc G L 42 ns 56 t2 c1) (fun u => xb (cm x n u.2.1) (fun t4 => .ok (asN G L q u.1, t4, u.2.2, ms)))))) hN rfl (PD_nx hcm hV2.2.2.1) (rD_le (rD_nx (SV_rD hV2 b1.2.1 (by omega)) b1.2.1) (by omega)) (nxS_P (fE_P hE2)) he0 (by omega) (Or.inl rfl) (fun z hz => wp_s (LQ_e rfl he0 hz (by omega)))
    rw [nI_clamp (by omega)] at hx
    exact hx
  | ok t2 =>
    rw [hcm, xb_k] at h0
    rw [xb_k]
    have ht2 := sat_get (cm_ok (x := x) (n := n) (t := t1) (by omega) b1.2.1) hcm
    have hh2 := ht2.2
    have hx := exT (cl := 56) (s := 59) (d0 := nd) (ar := 16) (K := fun u3 => some (nI nd, u3)) (Q := LQ x n tc G L tk ns nd ms τ (xb (yE x n tc G L 42 ns 56 t2 c1) (fun u => xb (cm x n u.2.1) (fun t4 => .ok (asN G L q u.1, t4, u.2.2, ms))))) hn hN hG hLn (Or.inl rfl) rfl (Or.inl rfl) (SV_n hcm hV2) ⟨ht2.1, b2, b3, b4, by omega, by omega⟩ (by omega) (fun q => h0 (by rw [q]; rfl)) ?_ ?_
    · rw [nI_clamp (by omega)] at hx
      exact hx
    · intro t tk' c' i nd' z hres hVz hBz hfz hndz hslot hrep hi hri hk' hplz
      simp only [hres, xb_k]
      have hEs : fE nd 0 τ (nxS x n t1.1 s2) := nxS_E hE2
      refine wp_s (LQ_n hn rfl hVz hBz (by rw [hk']; decide) (fE_trans hEs (fX1_E hfz (by omega) (by omega) (by omega)) (Nat.le_refl _) (Nat.le_refl _)) (by omega) ?_ ?_ (by omega) ⟨Nat.le_refl _, by omega⟩ (by omega))
      · refine hrepf z _ t (by omega) ?_ ?_ ?_ ?_ ?_ ?_
        · rw [hfz.2.1 15 nd (by omega) (by omega) (by omega), nxS_A]; exact hF2.1
        · rw [hfz.2.1 19 nd (by omega) (by omega) (by omega), nxS_A]; exact hF2.2.1
        · rw [hfz.2.1 20 nd (by omega) (by omega) (by omega), nxS_A]; exact hF2.2.2.1
        · rw [hfz.2.1 17 nd (by omega) (by omega) (by omega), nxS_A]; exact hF2.2.2.2.1
        · rw [hfz.2.1 18 nd (by omega) (by omega) (by omega), nxS_A]; exact hF2.2.2.2.2.1
        · rw [hslot]; exact rep_frame _ _ _ _ (fun j hj => ⟨hj, fun a _ _ => rfl⟩) hrep
      · rw [hfz.2.1 21 nd (by omega) (by omega) (by omega), nxS_A]; exact hF2.2.2.2.2.2
    · intro e z hres he0 hfx
      exact wp_s (LQ_e (by rw [hres]; rfl) he0 (FX_tr hfx (nxS_P (fE_P hE2))) (by omega))
/-- behind NAME [ E: ] = E ; -/
theorem asgTail {x : Nat → Int32} {n tc : Nat} {G : gE} {L : lE} {N : Nat} {tk t4 : yTok} {c' ns nd nd' ms : Nat} {v w : Int} {t : fT} {i : Nat} {τ z : zSt} (hn : n ≤ 512) (hN : 5000 ≤ N) (hG : G.2.2.2.2 ≤ 1400) (hLn : L.2.2 ≤ 1400) (hV : SV x n tc G L t4 c' ns nd' z) (hB : BD n tc t4 c' ns nd' 0) (hE : fE nd 0 τ z) (hnd : nd + 1 ≤ nd') (h15 : zA z 15 nd = 28) (h19 : zA z 19 nd = Int32.ofInt v) (h20 : zA z 20 nd = Int32.ofInt w) (h18 : zA z 18 nd = -1) (h21 : zA z 21 nd = -1) (h16 : zA z 16 nd = nI i) (hrep : rep z t (nd + 1) nd' (nI i)) (hpl : tk.2.1 < t4.2.1) (res : Except Int32 (fT × yTok × Nat × Nat))
    (hres : res = xb (need 57 t4) (fun _ => xb (cm x n t4) (fun t3 => xb (yE x n tc G L 42 ns 56 t3 c') (fun v' => xb (cm x n v'.2.1) (fun t5 => .ok (fN 28 v w t v'.1 fZ, t5, v'.2.2, ms)))))) (h0 : res ≠ .error 0) :
    wp (obd (fX12_takes N 61 z) (fun _ u => obd (fX12_expression N 59 u) (fun r u => if nI nd < 0 ∨ 4200 ≤ (nI nd).toNatClampNeg then none else bnd (zsA u 17 (nI nd).toNatClampNeg r) (fun u2 => obd (fX12_takes N 59 u2) (fun _ u3 => some (nI nd, u3)))))) (LQ x n tc G L tk ns nd ms τ res) := by
  have hBl := BD_le hB hn
  obtain ⟨b1, b2, b3, b4, b5, b6⟩ := hB
  have hK := rT_K hV.2.1
  subst hres
  cases hnd2 : need 57 t4 with
  | error e =>
    obtain ⟨ee, hk1⟩ := need_ee hnd2
    have he0 := need_ne hnd2 (by omega)
    rw [takesF (sF57 hV.2.2.1 hK hk1), stS_eq hV.2.2.1, stE_T hV.2.1 b1.2.2.2, ← ee, obd_s]
    exact exTD (b := 1100) hN (FX_tr (FX_mk (SV_rD hV b1.2.1 (by omega))) (fE_P hE)) he0 (by omega) (Or.inr rfl) (fun y hy => wp_s (LQ_e rfl he0 hy (by omega)))
  | ok y =>
    rw [hnd2, xb_k] at h0
    rw [xb_k]
    have hk1 := need_kk hnd2
    have hlt := tk_ne b1 hk1 (by decide)
    rw [takes61 hV hk1 b1.2.1 (by omega), obd_s]
    cases hcm : cm x n t4 with
    | error e =>
      have he0 := cm_ne hn hcm b1.2.1
      exact exTP (cl := 56) hN rfl (PD_nx hcm hV.2.2.1) (rD_le (rD_nx (SV_rD hV b1.2.1 (by omega)) b1.2.1) (by omega)) (nxS_P (fE_P hE)) he0 (by omega) (Or.inr rfl) (fun y hy => wp_s (LQ_e rfl he0 hy (by omega)))
    | ok t3 =>
      rw [hcm, xb_k] at h0
      rw [xb_k]
      have ht3 := sat_get (cm_ok (x := x) (n := n) (t := t4) (by omega) b1.2.1) hcm
      have hh3 := ht3.2
      refine exT (cl := 56) (s := 59) (d0 := nd) (ar := 17) (K := fun u3 => some (nI nd, u3)) hn hN hG hLn (Or.inl rfl) rfl (Or.inr rfl) (SV_n hcm hV) ⟨ht3.1, b2, b3, b4, by omega, by omega⟩ (by omega) (fun q => h0 (by rw [q]; rfl)) ?_ ?_
      · intro t' tk' c2 i' nd2 z2 hres hVz hBz hfz hndz hslot hrep2 hi hri hk' hplz
        simp only [hres, xb_k]
        have hEs : fE nd 0 τ (nxS x n t4.1 z) := nxS_E hE
        refine wp_s (LQ_n hn rfl hVz hBz (by rw [hk']; decide) (fE_trans hEs (fX1_E hfz (by omega) (by omega) (by omega)) (Nat.le_refl _) (Nat.le_refl _)) (by omega) ?_ ?_ (by omega) ⟨Nat.le_refl _, by omega⟩ (by omega))
        · refine rep_2 (p := nd') rfl (by decide) (by omega) ?_ ?_ ?_ (by omega) (by omega) ?_ ?_ ?_
          · rw [hfz.2.1 15 nd (by omega) (by omega) (by omega), nxS_A]; exact h15
          · rw [hfz.2.1 19 nd (by omega) (by omega) (by omega), nxS_A]; exact h19
          · rw [hfz.2.1 20 nd (by omega) (by omega) (by omega), nxS_A]; exact h20
          · rw [hfz.2.1 16 nd (by omega) (by omega) (by omega), nxS_A, h16]
            refine rep_frame _ _ _ _ (fun j hj => ⟨hj, fun a q1 q2 => ?_⟩) hrep
            rw [hfz.2.1 a j (by have := hj.2; omega) (by omega) (by have := hj.1; omega), nxS_A]
          · rw [hslot]
            exact rep_frame _ _ _ _ (fun j hj => ⟨hj, fun a _ _ => rfl⟩) hrep2
          · rw [hfz.2.1 18 nd (by omega) (by omega) (by omega), nxS_A]; exact h18
        · rw [hfz.2.1 21 nd (by omega) (by omega) (by omega), nxS_A]; exact h21
      · intro e z2 hres he0 hfx
        exact wp_s (LQ_e (by rw [hres]; rfl) he0 (FX_tr hfx (nxS_P (fE_P hE))) (by omega))
theorem asgTailD {x : Nat → Int32} {n N nd b : Nat} {e : Int32} {τ z : zSt} {Q : Int32 → zSt → Prop} (hN : 5000 ≤ N) (h : FXb x n b e τ z) (he : e ≠ 0) (hd : nd < 4200) (hQ : ∀ y, FXb x n b e τ y → Q (nI nd) y) :
    wp (obd (fX12_takes N 61 z) (fun _ u => obd (fX12_expression N 59 u) (fun r u => if nI nd < 0 ∨ 4200 ≤ (nI nd).toNatClampNeg then none else bnd (zsA u 17 (nI nd).toNatClampNeg r) (fun u2 => obd (fX12_takes N 59 u2) (fun _ u3 => some (nI nd, u3)))))) Q := by
  rw [takesD (by rw [h.1]; exact he), obd_s]
  exact exTD hN h he hd (Or.inr rfl) (fun y hy => wp_s (hQ y hy))
theorem asgIx {x : Nat → Int32} {n tc : Nat} {G : gE} {L : lE} {N : Nat} {tk t1 : yTok} {c1 ns nd ms g p : Nat} {τ s : zSt} (hn : n ≤ 512) (hN : 5000 ≤ N) (hG : G.2.2.2.2 ≤ 1400) (hLn : L.2.2 ≤ 1400) (hg : g < G.2.2.2.2) (hkd : G.2.1 g = 1) (hV : SV x n tc G L t1 c1 ns (nd + 1) s) (hB : BD n tc t1 c1 ns (nd + 1) 0) (hE : fE nd 0 τ s) (hF : ndF s nd 30) (hk : t1.2.2.1 = 53) (hpl : tk.2.1 < t1.2.1) (res : Except Int32 (fT × yTok × Nat × Nat))
    (hres : res = xb (yIndex x n (yE x n tc G L 42) G (.inr g) p ns t1 c1) (fun u => xb (need 57 u.2.1) (fun _ => xb (cm x n u.2.1) (fun t3 => xb (yE x n tc G L 42 ns 56 t3 u.2.2) (fun v => xb (cm x n v.2.1) (fun t5 => .ok (fN 28 (G.2.2.1 g).toInt (G.2.2.2.1 g).toInt u.1 v.1 fZ, t5, v.2.2, ms))))))) (h0 : res ≠ .error 0) :
    wp (obd (fX12_opens N 91 (zsA (zsA (zsA s 15 nd 28) 19 nd (G.2.2.1 g)) 20 nd (G.2.2.2.1 g))) (fun _ u => obd (fX12_expression N 93 u) (fun r u => if nI nd < 0 ∨ 4200 ≤ (nI nd).toNatClampNeg then none else bnd (zsA u 16 (nI nd).toNatClampNeg r) (fun u => obd (fX12_closes N 93 u) (fun _ u => obd (fX12_takes N 61 u) (fun _ u => obd (fX12_expression N 59 u) (fun r u => if nI nd < 0 ∨ 4200 ≤ (nI nd).toNatClampNeg then none else bnd (zsA u 17 (nI nd).toNatClampNeg r) (fun u2 => obd (fX12_takes N 59 u2) (fun _ u3 => some (nI nd, u3)))))))))) (LQ x n tc G L tk ns nd ms τ res) := by
  have hBl := BD_le hB hn
  obtain ⟨b1, b2, b3, b4, b5, b6⟩ := hB
  have hlt := tk_ne b1 hk (by decide)
  have hV2 : SV x n tc G L t1 c1 ns (nd + 1) (zsA (zsA (zsA s 15 nd 28) 19 nd (G.2.2.1 g)) 20 nd (G.2.2.2.1 g)) := SV_A (SV_A (SV_A hV (by omega)) (by omega)) (by omega)
  have hE2 : fE nd 0 τ (zsA (zsA (zsA s 15 nd 28) 19 nd (G.2.2.1 g)) 20 nd (G.2.2.2.1 g)) := fE_A (fE_A (fE_A hE (by omega)) (by omega)) (by omega)
  have hF2 : zA (zsA (zsA (zsA s 15 nd 28) 19 nd (G.2.2.1 g)) 20 nd (G.2.2.2.1 g)) 15 nd = 28 ∧ zA (zsA (zsA (zsA s 15 nd 28) 19 nd (G.2.2.1 g)) 20 nd (G.2.2.2.1 g)) 19 nd = G.2.2.1 g ∧ zA (zsA (zsA (zsA s 15 nd 28) 19 nd (G.2.2.1 g)) 20 nd (G.2.2.2.1 g)) 20 nd = G.2.2.2.1 g ∧ zA (zsA (zsA (zsA s 15 nd 28) 19 nd (G.2.2.1 g)) 20 nd (G.2.2.2.1 g)) 18 nd = -1 ∧ zA (zsA (zsA (zsA s 15 nd 28) 19 nd (G.2.2.1 g)) 20 nd (G.2.2.2.1 g)) 21 nd = -1 := by
    simp only [zI_I, zI_L, zI_R, zI_A, zI_B, zL_I, zL_L, zL_R, zL_A, zL_B, zA_I, zA_L, zA_R, zA_A, zA_B, zB_I, zB_L, zB_R, zB_A, zB_B, reduceIte, Nat.reduceEqDiff, Nat.reduceEqDiff, false_and, and_false, true_and, and_true, ne_eq, not_false_eq_true, not_true_eq_false]
    exact ⟨hF.2.2.2.1, hF.2.2.2.2.2.2⟩
  revert hV2 hE2 hF2
  generalize zsA (zsA (zsA s 15 nd 28) 19 nd (G.2.2.1 g)) 20 nd (G.2.2.2.1 g) = s2
  intro hV2 hE2 hF2
  have hK := rT_K hV2.2.1
  have hsg := (sB53 hV2.2.2.1 hK).mpr hk
  have hD := SV_rD hV2 b1.2.1 (by omega)
  have hyi : yIndex x n (yE x n tc G L 42) G (.inr g) p ns t1 c1 = xb (ne ns t1.2.1) (fun _ => xb (cm x n t1) (fun t2 => xb (yE x n tc G L 42 (ns + 1) 54 t2 c1) (fun u => xb (cm x n u.2.1) (fun t4 => .ok (u.1, t4, u.2.2))))) := by
    unfold yIndex
    exact if_pos hkd
  rw [hyi] at hres
  subst hres
  cases hne : ne ns t1.2.1 with
  | error e =>
    have he0 := ne_ne hne (by omega)
    rw [opensE hne he0 hsg hV2.2.2.1 hV2.2.2.2.2.1 hV2.2.1.2.1, obd_s]
    exact exCD (b := 1100) hN (FX_tr (FX_I (FX_mk hD) (by omega)) (fE_P hE2)) he0 (by omega) (Or.inl rfl) (fun y hy => asgTailD hN hy he0 (by omega) (fun y2 hy2 => LQ_e rfl he0 hy2 (by omega)))
  | ok y =>
    have hns := ne_kk hne
    rw [hne, xb_k] at h0
    rw [xb_k]
    rw [opensT hne hsg hV2.2.2.1 hV2.2.2.2.2.1 b4 hV2.1.1 hV2.2.1.1 b1.2.1 (by omega), obd_s]
    have hV3 : SV x n tc G L t1 c1 (ns + 1) (nd + 1) (zsI s2 0 37 (nI (ns + 1))) := SV_37 hV2
    have hE3 : fE nd 0 τ (zsI s2 0 37 (nI (ns + 1))) := fE_I hE2 (by omega)
    have hA3 : ∀ a i, zA (zsI s2 0 37 (nI (ns + 1))) a i = zA s2 a i := fun a i => zA_I ..
    revert hV3 hE3 hA3
    generalize zsI s2 0 37 (nI (ns + 1)) = s3
    intro hV3 hE3 hA3
    cases hcm : cm x n t1 with
    | error e =>
      have he0 := cm_ne hn hcm b1.2.1
      exact exCP (cl := 54) hN rfl (PD_nx hcm hV3.2.2.1) (rD_le (rD_nx (SV_rD hV3 b1.2.1 (by omega)) b1.2.1) (by omega)) (nxS_P (fE_P hE3)) he0 (by omega) (Or.inl rfl) (fun y hy => asgTailD hN hy he0 (by omega) (fun y2 hy2 => LQ_e rfl he0 hy2 (by omega)))
    | ok t2 =>
      rw [hcm, xb_k] at h0
      rw [xb_k]
      have ht2 := sat_get (cm_ok (x := x) (n := n) (t := t1) (by omega) b1.2.1) hcm
      have hh2 := ht2.2
      refine exC (cl := 54) (s := 93) (d0 := nd) (ar := 16) (K := fun u => obd (fX12_takes N 61 u) (fun _ u => obd (fX12_expression N 59 u) (fun r u => if nI nd < 0 ∨ 4200 ≤ (nI nd).toNatClampNeg then none else bnd (zsA u 17 (nI nd).toNatClampNeg r) (fun u2 => obd (fX12_takes N 59 u2) (fun _ u3 => some (nI nd, u3)))))) hn hN hG hLn (Or.inr (Or.inr rfl)) rfl (Or.inl rfl) (SV_n hcm hV3) ⟨ht2.1, b2, b3, by omega, by omega, by omega⟩ (by omega) (fun q => h0 (by rw [q]; rfl)) ?_ ?_
      · intro t tk' c' i nd' z hres hVz hBz hfz hndz hslot hrep hi hri hk' hplz
        rw [hres, xb_k] at h0
        simp only [hres, xb_k]
        have hBlz := BD_le hBz hn
        obtain ⟨d1, d2, d3, d4, d5, d6⟩ := hBz
        have hltz := tk_ne d1 hk' (by decide)
        have hEz : fE nd 0 τ z := fE_trans (nxS_E hE3) (fX1_E (lo := nd) hfz (by omega) (by omega) (by omega)) (Nat.le_refl _) (Nat.le_refl _)
        cases hcm2 : cm x n tk' with
        | error e =>
          have he0 := cm_ne hn hcm2 d1.2.1
          have hpd := PD_nx (τ := z) hcm2 hVz.2.2.1
          have hfx : FXb x n 1100 e τ (zsI (nxS x n tk'.1 z) 0 21 e) := FX_tr (FX_mk (rD_nx (SV_rD hVz d1.2.1 (by omega)) d1.2.1)) (nxS_P (fE_P hEz))
          rw [takesF (sF57 hpd.1 (PD_K hpd) (by decide)), stS_eq hpd.1, stE_P hpd, obd_s]
          exact exTD hN hfx he0 (by omega) (Or.inr rfl) (fun y hy => wp_s (LQ_e rfl he0 hy (by omega)))
        | ok t4 =>
          rw [hcm2, xb_k, xb_k] at h0
          rw [xb_k, xb_k]
          have ht4 := sat_get (cm_ok (x := x) (n := n) (t := tk') (by omega) d1.2.1) hcm2
          have hh4 := ht4.2
          refine asgTail hn hN hG hLn (SV_n hcm2 hVz) ⟨ht4.1, d2, d3, d4, by omega, by omega⟩ (nxS_E hEz) hndz ?_ ?_ ?_ ?_ ?_ (nxS_A.trans hslot) (rep_frame _ _ _ _ (fun j hj => ⟨hj, fun a _ _ => nxS_A⟩) hrep) (by omega) _ rfl h0
          · rw [nxS_A, hfz.2.1 15 nd (by omega) (by omega) (by omega), nxS_A, hA3]; exact hF2.1
          · rw [nxS_A, hfz.2.1 19 nd (by omega) (by omega) (by omega), nxS_A, hA3, hF2.2.1, Int32.ofInt_toInt]
          · rw [nxS_A, hfz.2.1 20 nd (by omega) (by omega) (by omega), nxS_A, hA3, hF2.2.2.1, Int32.ofInt_toInt]
          · rw [nxS_A, hfz.2.1 18 nd (by omega) (by omega) (by omega), nxS_A, hA3]; exact hF2.2.2.2.1
          · rw [nxS_A, hfz.2.1 21 nd (by omega) (by omega) (by omega), nxS_A, hA3]; exact hF2.2.2.2.2
      · intro e z hres he0 hfx
        exact asgTailD hN (FX_tr hfx (nxS_P (fE_P hE3))) he0 (by omega) (fun y2 hy2 => LQ_e (by rw [hres]; rfl) he0 hy2 (by omega))
theorem asgCall {x : Nat → Int32} {n tc : Nat} {G : gE} {L : lE} {N : Nat} {tk t1 : yTok} {c1 ns nd ms g p : Nat} {τ s : zSt} (hn : n ≤ 512) (hN : 5000 ≤ N) (hG : G.2.2.2.2 ≤ 1400) (hLn : L.2.2 ≤ 1400) (hg : g < G.2.2.2.2) (hkd : G.2.1 g = 2) (hp : p ≤ 4096) (hV : SV x n tc G L t1 c1 ns (nd + 1) s) (hB : BD n tc t1 c1 ns (nd + 1) 0) (hE : fE nd 0 τ s) (hF : ndF s nd 30) (hk : t1.2.2.1 = 49) (hpl : tk.2.1 < t1.2.1) (res : Except Int32 (fT × yTok × Nat × Nat))
    (hres : res = xb (yCall x n (yE x n tc G L 42) G (.inr g) p ns t1 c1) (fun u => xb (need 56 u.2.1) (fun _ => xb (cm x n u.2.1) (fun t3 => .ok (fN 29 0 0 u.1 fZ fZ, t3, u.2.2, ms))))) (h0 : res ≠ .error 0) :
    wp (obd (fX12_callAlone N (nI p) (nI g) (zsA s 15 nd 29)) (fun r u => if nI nd < 0 ∨ 4200 ≤ (nI nd).toNatClampNeg then none else bnd (zsA u 16 (nI nd).toNatClampNeg r) (fun u => obd (fX12_takes N 59 u) (fun _ u => some (nI nd, u))))) (LQ x n tc G L tk ns nd ms τ res) := by
  have hBl := BD_le hB hn
  have hV2 : SV x n tc G L t1 c1 ns (nd + 1) (zsA s 15 nd 29) := SV_A hV (by omega)
  have hE2 : fE nd 0 τ (zsA s 15 nd 29) := fE_A hE (by omega)
  have hF2 : zA (zsA s 15 nd 29) 15 nd = 29 ∧ zA (zsA s 15 nd 29) 19 nd = 0 ∧ zA (zsA s 15 nd 29) 20 nd = 0 ∧ zA (zsA s 15 nd 29) 17 nd = -1 ∧ zA (zsA s 15 nd 29) 18 nd = -1 ∧ zA (zsA s 15 nd 29) 21 nd = -1 := by
    simp only [zI_I, zI_L, zI_R, zI_A, zI_B, zL_I, zL_L, zL_R, zL_A, zL_B, zA_I, zA_L, zA_R, zA_A, zA_B, zB_I, zB_L, zB_R, zB_A, zB_B, reduceIte, Nat.reduceEqDiff, Nat.reduceEqDiff, false_and, and_false, true_and, and_true, ne_eq, not_false_eq_true, not_true_eq_false]
    exact ⟨hF.2.2.2.2.1, hF.2.2.2.2.2.1, hF.2.2.1, hF.2.2.2.1, hF.2.2.2.2.2.2⟩
  revert hV2 hE2 hF2
  generalize zsA s 15 nd 29 = s2
  intro hV2 hE2 hF2
  rw [yCall_Q hkd] at hres
  subst hres
  refine wp_obd (callAR hn hN hG hLn hV2 hB hk hg hp (fun q => h0 (by rw [q]; rfl)) ?_ ?_)
  · intro t tk' c' i nd' z hres hVz hBz hEz hndz hrep hi h50 hplz
    rw [hres, xb_k] at h0
    simp only [hres, xb_k]
    have hBlz := BD_le hBz hn
    obtain ⟨d1, d2, d3, d4, d5, d6⟩ := hBz
    have hltz := tk_ne d1 h50 (by decide)
    have hEτ : fE nd 0 τ z := fE_trans hE2 (fE_trans (lo := nd) (w0 := 0) fE_refl hEz (by omega) (Nat.le_refl _)) (Nat.le_refl _) (Nat.le_refl _)
    rw [nI_clamp (by omega), if_neg (ixN (show nd < 4200 by omega) (by omega)), bnd_e, nxS_swA]
    have hVy : SV x n tc G L tk' c' ns nd' (zsA z 16 nd (nI i)) := SV_A hVz (by omega)
    have hEy : fE nd 0 τ (zsA z 16 nd (nI i)) := fE_A hEτ (by omega)
    have hFy : ∀ a, a ≤ 21 → a ≠ 16 → zA (zsA z 16 nd (nI i)) a nd = zA s2 a nd := fun a q1 q2 => by rw [zA_A, if_neg (by omega), hEz.2.1 a nd (by omega) (by omega)]
    have hry : rep (zsA z 16 nd (nI i)) (fN 29 0 0 t fZ fZ) nd nd' (nI nd) := by
      refine rep_1 rfl (by decide) (by omega) ?_ ?_ ?_ (by omega) ?_ ?_ ?_
      · rw [hFy 15 (by omega) (by omega)]; exact hF2.1
      · rw [hFy 19 (by omega) (by omega)]; exact hF2.2.1
      · rw [hFy 20 (by omega) (by omega)]; exact hF2.2.2.1
      · rw [zA_A, if_pos ⟨rfl, rfl⟩]
        refine rep_frame _ _ _ _ (fun j hj => ⟨hj, fun a _ _ => ?_⟩) hrep
        rw [zA_A, if_neg (by have := hj.1; omega)]
      · rw [hFy 17 (by omega) (by omega)]; exact hF2.2.2.2.1
      · rw [hFy 18 (by omega) (by omega)]; exact hF2.2.2.2.2.1
    have h21y : zA (zsA z 16 nd (nI i)) 21 nd = -1 := by rw [hFy 21 (by omega) (by omega)]; exact hF2.2.2.2.2.2
    revert hVy hEy hry h21y
    generalize zsA z 16 nd (nI i) = y
    intro hVy hEy hry h21y
    cases hcm2 : cm x n tk' with
    | error e =>
      have he0 := cm_ne hn hcm2 d1.2.1
      have hpd := PD_nx (τ := y) hcm2 hVy.2.2.1
      rw [takesF (sF56 hpd.1 (PD_K hpd) (by decide)), stS_eq hpd.1, stE_P hpd, obd_s]
      exact wp_s (LQ_e rfl he0 (FX_tr (FX_mk (rD_nx (SV_rD hVy d1.2.1 (by omega)) d1.2.1)) (nxS_P (fE_P hEy))) (by omega))
    | ok t4 =>
      rw [xb_k, xb_k]
      have ht4 := sat_get (cm_ok (x := x) (n := n) (t := tk') (by omega) d1.2.1) hcm2
      have hh4 := ht4.2
      have hq1 := ht4.1.1
      have hq2 := ht4.1.2.1
      have hV4 := SV_n hcm2 hVy
      have hE4 : fE nd 0 τ (nxS x n tk'.1 y) := nxS_E hEy
      have hr4 : rep (nxS x n tk'.1 y) (fN 29 0 0 t fZ fZ) nd nd' (nI nd) := rep_frame _ _ _ _ (fun j hj => ⟨hj, fun a _ _ => nxS_A⟩) hry
      have h214 : zA (nxS x n tk'.1 y) 21 nd = -1 := nxS_A.trans h21y
      revert hV4 hE4 hr4 h214
      generalize nxS x n tk'.1 y = y4
      intro hV4 hE4 hr4 h214
      have hK4 := rT_K hV4.2.1
      cases hnd : need 56 t4 with
      | error e =>
        obtain ⟨ee, hk1⟩ := need_ee hnd
        have he0 := need_ne hnd (by omega)
        rw [takesF (sF56 hV4.2.2.1 hK4 hk1), stS_eq hV4.2.2.1, stE_T hV4.2.1 ht4.1.2.2.2, ← ee, obd_s]
        exact wp_s (LQ_e rfl he0 (FX_tr (FX_mk (SV_rD hV4 hq2 (by omega))) (fE_P hE4)) (by omega))
      | ok yy =>
        have hk1 := need_kk hnd
        rw [takesR_yes ((sB56 hV4.2.2.1 hK4).mpr hk1), nextS hV4 hq2 (by omega), obd_s]
        exact wp_s (LQ_n hn rfl hV4 ⟨ht4.1, d2, d3, d4, by omega, by omega⟩ (by rw [hk1]; decide) hE4 (by omega) hr4 h214 (by omega) ⟨Nat.le_refl _, by omega⟩ (by omega))
  · intro e r z hres he0 hfx
    have hf2 : FXb x n 1200 e τ (zsA z 16 nd r) := FX_A ⟨hfx.1, hfx.2.1, fP_trans (fE_P hE2) hfx.2.2⟩ (by omega)
    rw [nI_clamp (by omega), if_neg (ixN (show nd < 4200 by omega) (by omega)), bnd_e, takesD (by rw [hf2.1]; exact he0), obd_s]
    exact wp_s (LQ_e (by rw [hres]; rfl) he0 hf2 (by omega))
