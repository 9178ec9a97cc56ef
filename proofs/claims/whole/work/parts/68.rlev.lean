/-! THE REFERENCE'S READER: E whole -/
theorem part1 {N : Nat} {τ : zSt} {K : Int32} (h21 : zI τ 0 21 = 0) (hK : rK τ K) (h : K = 22 ∨ K = 25 ∨ K = 26) : fX12_part N τ = fX12_part_b32 N (zI τ 0 18) τ := by
  unfold fX12_part
  rw [bnd_e]
  by_cases h1 : K = 22
  · rw [isSignT ((sB22 h21 hK).mpr h1), obd_s, if_neg (by decide)]
  · rw [isSignF (sF22 h21 hK h1), obd_s, if_pos rfl]
    by_cases h2 : K = 25
    · rw [isSignT ((sB25 h21 hK).mpr h2), obd_s, if_neg (by decide)]
    · rw [isSignF (sF25 h21 hK h2), obd_s, if_pos rfl]
      rcases h with h | h | h
      · exact (h1 h).elim
      · exact (h2 h).elim
      · rw [isSignT ((sB26 h21 hK).mpr h), obd_s, if_neg (by decide)]
theorem one_in {k : Int32} (h : isOne (yOne k) = true) (hk : k ≠ 24) : k = 22 ∨ k = 25 ∨ k = 26 := by
  unfold isOne yOne at h
  rw [decide_eq_true_eq] at h
  by_cases e : k = 22
  · exact Or.inl e
  · rw [if_neg e] at h
    rcases h with h | h | h
    · exact (hk h).elim
    · exact Or.inr (Or.inl h)
    · exact Or.inr (Or.inr h)
theorem rK_24 {τ : zSt} {K : Int32} (h : rK τ K) : K ≠ 24 := by
  obtain ⟨h1, h2⟩ := h
  intro e
  rw [e] at h1
  rcases h2 with q | q | q | ⟨q, ht⟩ | ⟨q, ht⟩ | q
  · rw [q] at h1; exact absurd (show (58 : Int32) = 24 from h1) (by decide)
  · rw [q] at h1; exact absurd (show (40 : Int32) = 24 from h1) (by decide)
  · rw [q] at h1; exact absurd (show (41 : Int32) = 24 from h1) (by decide)
  · rw [q] at h1
    rcases ht with q | q | q | q | q | q | q <;> rw [q] at h1 <;> exact absurd h1 (by decide)
  · rw [q] at h1
    have e := sgInv_ok ht
    have h3 : sgOf (zL τ 0 20) = 24 := h1
    rw [h3] at e
    rw [← e] at h3
    exact absurd h3 (by decide)
  · rw [q] at h1; exact absurd (show (-1 : Int32) = 24 from h1) (by decide)
/-- a sign ahead of one: its node, and it waits -/
theorem b32R {x : Nat → Int32} {n tc : Nat} {G : gE} {L : lE} {N : Nat} {tk : yTok} {c c1 ns nd w : Nat} {y : Unit} {τ : zSt} (hn : n ≤ 512) (hN : 5000 ≤ N) (hV : RV x n tc G L tk c ns nd w τ) (hB : BD n tc tk c ns nd w) (hk : tk.2.2.1 = 22 ∨ tk.2.2.1 = 25 ∨ tk.2.2.1 = 26) (hne : ne ns tk.2.1 = .ok y) (hfo : fo tc c tk.2.1 = .ok c1) :
    fX12_part_b32 N (nI tk.2.1) τ = some (-1, nxS x n tk.1 (wtS (zsA (ndS (zsI (zsI τ 0 37 (nI (ns + 1))) 0 36 (nI c1)) 5 nd) 19 nd (yOne tk.2.2.1)) w 4 (nI nd) (-1))) := by
  have hBl := BD_le hB hn
  obtain ⟨b1, b2, b3, b4, b5, b6⟩ := hB
  have hV1 : RV x n tc G L tk c1 (ns + 1) nd w (zsI (zsI τ 0 37 (nI (ns + 1))) 0 36 (nI c1)) := RV_36 (RV_37 hV)
  unfold fX12_part_b32
  rw [nestsT hne hV.2.2.2.2.1 b4, obd_s, fourT hfo (by simp only [zI_I, zI_L, zI_R, zI_A, zI_B, zL_I, zL_L, zL_R, zL_A, zL_B, zA_I, zA_L, zA_R, zA_A, zA_B, zB_I, zB_L, zB_R, zB_A, zB_B, reduceIte, Nat.reduceEqDiff, Nat.reduceEqDiff, false_and, and_false, true_and, and_true, ne_eq, not_false_eq_true, not_true_eq_false]; exact hV.2.2.2.1) (by simp only [zI_I, zI_L, zI_R, zI_A, zI_B, zL_I, zL_L, zL_R, zL_A, zL_B, zA_I, zA_L, zA_R, zA_A, zA_B, zB_I, zB_L, zB_R, zB_A, zB_B, reduceIte, Nat.reduceEqDiff, Nat.reduceEqDiff, false_and, and_false, true_and, and_true, ne_eq, not_false_eq_true, not_true_eq_false]; exact hV.1.2.1) b3, obd_s, nodeR hV1.2.2.2.2.2.1 (by omega), obd_s]
  have hV2 : RV x n tc G L tk c1 (ns + 1) (nd + 1) w (ndS (zsI (zsI τ 0 37 (nI (ns + 1))) 0 36 (nI c1)) 5 nd) := RV_nd hV1
  revert hV2
  generalize ndS (zsI (zsI τ 0 37 (nI (ns + 1))) 0 36 (nI c1)) 5 nd = s
  intro hV2
  have hKs := rT_K hV2.2.1
  have hfin : ∀ v : Int32, fX12_part_b86 N (nI nd) v (nI nd) s = some (-1, nxS x n tk.1 (wtS (zsA s 19 nd v) w 4 (nI nd) (-1))) := by
    intro v
    unfold fX12_part_b86
    have hV3 : RV x n tc G L tk c1 (ns + 1) (nd + 1) w (zsA s 19 nd v) := RV_A hV2 (by omega)
    rw [nI_clamp (by omega), if_neg (ixN (show nd < 4200 by omega) (by omega)), bnd_e, isWellT hV3.2.2.1, obd_s, if_neg (by decide), waitsR hV3.2.2.2.2.2.2 (by omega), obd_s, nextV (RV_wt hV3) hBl.2.2.2 (by omega), obd_s]
  have c45 : (zL s 0 20 = 45) ↔ tk.2.2.1 = 22 := by
    rw [← sg22 hKs.1 hKs.2]
    constructor
    · intro q
      refine ⟨?_, q⟩
      by_cases h4 : zI s 0 19 = 4
      · exact h4
      · have h := rk_k4 hKs h4
        rcases hk with q | q | q
        · rw [q] at h; exact absurd h.1 (by decide)
        · exfalso
          have := (sg25 hKs.1 hKs.2).mpr q
          exact h4 this.1
        · exfalso
          have := (sg26 hKs.1 hKs.2).mpr q
          exact h4 this.1
    · exact fun q => q.2
  have c33 : (zL s 0 20 = 33) ↔ tk.2.2.1 = 25 := by
    rw [← sg25 hKs.1 hKs.2]
    constructor
    · intro q
      refine ⟨?_, q⟩
      rcases hk with q | q | q
      · exact ((sg22 hKs.1 hKs.2).mpr q).1
      · exact ((sg25 hKs.1 hKs.2).mpr q).1
      · exact ((sg26 hKs.1 hKs.2).mpr q).1
    · exact fun q => q.2
  by_cases h1 : tk.2.2.1 = 22
  · rw [if_pos ((lg_cmp_eq _ _).mpr (c45.mpr h1)), hfin, h1]; rfl
  · rw [if_neg (fun q => h1 (c45.mp ((lg_cmp_eq _ _).mp q)))]
    by_cases h2 : tk.2.2.1 = 25
    · rw [if_pos ((lg_cmp_eq _ _).mpr (c33.mpr h2)), hfin, h2]; rfl
    · rw [if_neg (fun q => h2 (c33.mp ((lg_cmp_eq _ _).mp q))), hfin]
      rcases hk with q | q | q
      · exact (h1 q).elim
      · exact (h2 q).elim
      · rw [q]; rfl
/-- the same where it is too deep, or there are no cells left -/
theorem b32E {x : Nat → Int32} {n tc : Nat} {G : gE} {L : lE} {N : Nat} {tk : yTok} {c ns nd w : Nat} {e : Int32} {τ : zSt} (hn : n ≤ 512) (hN : 5000 ≤ N) (hV : RV x n tc G L tk c ns nd w τ) (hB : BD n tc tk c ns nd w) (he : xb (ne ns tk.2.1) (fun _ => fo tc c tk.2.1) = .error e) : e ≠ 0 ∧ ∃ u, fX12_part_b32 N (nI tk.2.1) τ = some (-1, u) ∧ FXb x n 1100 e τ u := by
  have hBl := BD_le hB hn
  have hD := RV_D hV hB hn
  obtain ⟨b1, b2, b3, b4, b5, b6⟩ := hB
  have hpre : ∃ s, FXb x n 1100 e τ s ∧ zI s 0 38 = nI nd ∧ e ≠ 0 ∧ obd (fX12_nests N τ) (fun _ σ5 => fX12_four N (nI tk.2.1) σ5) = some ((), s) := by
    cases hne : ne ns tk.2.1 with
    | error e' =>
      rw [hne, xb_e] at he
      cases he
      have he0 := ne_ne hne (by omega)
      have hfx : FXb x n 1100 e τ (zsI (zsI τ 0 21 e) 0 37 (nI (ns + 1))) := FX_I (FX_mk hD) (by omega)
      refine ⟨_, FX_I (k := 36) (v := zI (zsI (zsI τ 0 21 e) 0 37 (nI (ns + 1))) 0 36 + 4) hfx (by omega), by simp only [zI_I, zI_L, zI_R, zI_A, zI_B, zL_I, zL_L, zL_R, zL_A, zL_B, zA_I, zA_L, zA_R, zA_A, zA_B, zB_I, zB_L, zB_R, zB_A, zB_B, reduceIte, Nat.reduceEqDiff, Nat.reduceEqDiff, false_and, and_false, true_and, and_true, ne_eq, not_false_eq_true, not_true_eq_false]; exact hV.2.2.2.2.2.1, he0, ?_⟩
      rw [nestsE hne hV.2.2.1 hV.2.2.2.2.1 hV.2.1.2.1, obd_s, fourD (by rw [hfx.1]; exact he0)]
    | ok y =>
      rw [hne, xb_k] at he
      have he0 := fo_ne he (by omega)
      refine ⟨zsI (zsI (zsI τ 0 37 (nI (ns + 1))) 0 21 e) 0 36 (nI (c + 4)), FX_I (FX_tr (FX_mk (rD_I hD (by omega))) (fP_I fP_refl (by omega))) (by omega), by simp only [zI_I, zI_L, zI_R, zI_A, zI_B, zL_I, zL_L, zL_R, zL_A, zL_B, zA_I, zA_L, zA_R, zA_A, zA_B, zB_I, zB_L, zB_R, zB_A, zB_B, reduceIte, Nat.reduceEqDiff, Nat.reduceEqDiff, false_and, and_false, true_and, and_true, ne_eq, not_false_eq_true, not_true_eq_false]; exact hV.2.2.2.2.2.1, he0, ?_⟩
      rw [nestsT hne hV.2.2.2.2.1 b4, obd_s, fourE he (by simp only [zI_I, zI_L, zI_R, zI_A, zI_B, zL_I, zL_L, zL_R, zL_A, zL_B, zA_I, zA_L, zA_R, zA_A, zA_B, zB_I, zB_L, zB_R, zB_A, zB_B, reduceIte, Nat.reduceEqDiff, Nat.reduceEqDiff, false_and, and_false, true_and, and_true, ne_eq, not_false_eq_true, not_true_eq_false]; exact hV.2.2.1) (by simp only [zI_I, zI_L, zI_R, zI_A, zI_B, zL_I, zL_L, zL_R, zL_A, zL_B, zA_I, zA_L, zA_R, zA_A, zA_B, zB_I, zB_L, zB_R, zB_A, zB_B, reduceIte, Nat.reduceEqDiff, Nat.reduceEqDiff, false_and, and_false, true_and, and_true, ne_eq, not_false_eq_true, not_true_eq_false]; exact hV.2.2.2.1) (by simp only [zI_I, zI_L, zI_R, zI_A, zI_B, zL_I, zL_L, zL_R, zL_A, zL_B, zA_I, zA_L, zA_R, zA_A, zA_B, zB_I, zB_L, zB_R, zB_A, zB_B, reduceIte, Nat.reduceEqDiff, Nat.reduceEqDiff, false_and, and_false, true_and, and_true, ne_eq, not_false_eq_true, not_true_eq_false]; exact hV.1.2.1) (by omega)]
  obtain ⟨s, hfx, h38, he0, heq⟩ := hpre
  refine ⟨he0, ?_⟩
  have hb : fX12_part_b32 N (nI tk.2.1) τ = obd (obd (fX12_nests N τ) (fun _ σ5 => fX12_four N (nI tk.2.1) σ5)) (fun _ σ7 => obd (fX12_node N (5 : Int32) σ7) (fun r8 σ9 => if (lg_cmp (zL σ9 0 20) (45 : Int64)) = 0 then fX12_part_b86 N r8 (24 : Int32) r8 σ9 else if (lg_cmp (zL σ9 0 20) (33 : Int64)) = 0 then fX12_part_b86 N r8 (25 : Int32) r8 σ9 else fX12_part_b86 N r8 (26 : Int32) r8 σ9)) := by
    unfold fX12_part_b32
    cases fX12_nests N τ with
    | none => rfl
    | some q => rfl
  have hfin : ∀ v : Int32, fX12_part_b86 N (nI nd) v (nI nd) (ndS s 5 nd) = some (-1, zsA (ndS s 5 nd) 19 nd v) := by
    intro v
    unfold fX12_part_b86
    rw [nI_clamp (by omega), if_neg (ixN (show nd < 4200 by omega) (by omega)), bnd_e, isWellF (by rw [zI_A, ndS_I (by omega), hfx.1]; exact he0), obd_s, if_pos rfl]
  rw [hb, heq, obd_s, nodeR h38 (by omega), obd_s]
  split
  · exact ⟨_, hfin _, FX_A (FX_nd hfx (by omega)) (by omega)⟩
  · split
    · exact ⟨_, hfin _, FX_A (FX_nd hfx (by omega)) (by omega)⟩
    · exact ⟨_, hfin _, FX_A (FX_nd hfx (by omega)) (by omega)⟩
theorem loopR {x : Nat → Int32} {n tc : Nat} {G : gE} {L : lE} {N : Nat} {R : yRec} (hn : n ≤ 512) (hN : 5000 ≤ N) (hG : G.2.2.2.2 ≤ 1400) (hLn : L.2.2 ≤ 1400) (hR : LVp x n tc G L N R) (hW : rW R) : ∀ (f : Nat) (ops : yOps) (ns : Nat) (cl : Int32) (tk : yTok) (c nd v w lo m : Nat) (τ : zSt) (Q : Int32 → zSt → Prop),
    RV x n tc G L tk c ns nd w τ → BD n tc tk c ns nd w → STK τ v lo cl [] ops w nd nd → n + 5 ≤ m + tk.2.1 → yLoop x n tc G L R f ops ns cl tk c ≠ .error 0 →
    OKL x n tc G L N tk ns lo nd v cl τ Q (yLoop x n tc G L R f ops ns cl tk c) → (∀ e r u, yLoop x n tc G L R f ops ns cl tk c = .error e → e ≠ 0 → FO x n e v cl τ u → Q r u) → wp (fX12_works_b2 N m (-1) τ) Q := by
  intro f
  induction f with
  | zero => intro ops ns cl tk c nd v w lo m τ Q _ _ _ _ h0; exact absurd rfl h0
  | succ f ih =>
    intro ops ns cl tk c nd v w lo m τ Q hV hB hS hm h0 hok her
    rw [yLoop_R] at h0 hok her
    -- the signs ahead of one, then the part
    have hones : ∀ (f2 : Nat) (l : yOps) (tk2 : yTok) (c2 nd2 w2 m2 : Nat) (s : zSt), RV x n tc G L tk2 c2 (ns + l.length) nd2 w2 s → BD n tc tk2 c2 (ns + l.length) nd2 w2 → STK s v lo cl l ops w2 nd2 nd2 → n + 5 ≤ m2 + tk2.2.1 → fE lo (v + 1) τ s → nd ≤ nd2 → tk.2.1 ≤ tk2.2.1 → (∀ o ∈ l, o.2 = fZ) →
        xb (yOpen x n tc 42 ops ns tk c) (yRest x n tc G L R f ns cl) = xb (yOpen x n tc f2 (l ++ ops) (ns + l.length) tk2 c2) (yRest x n tc G L R f ns cl) → wp (fX12_works_b2 N m2 (-1) s) Q := by
      intro f2
      induction f2 with
      | zero => intro l tk2 c2 nd2 w2 m2 s _ _ _ _ _ _ _ _ heq; rw [heq] at h0; exact absurd rfl h0
      | succ f2 ih2 =>
        intro l tk2 c2 nd2 w2 m2 s hV2 hB2 hS2 hm2 hE2 hnd2 hpl2 hlz heq
        have hBl2 := BD_le hB2 hn
        have hws := STK_w hS2
        have hB2' := hB2
        obtain ⟨b1, b2, b3, b4, b5, b6⟩ := hB2
        have hK2 := rT_K hV2.2.1
        have hpn : tk2.2.1 ≤ n := by have := b1.1; have := b1.2.1; omega
        obtain ⟨w2', rfl⟩ : ∃ g, w2 = g + 1 := ⟨w2 - 1, by omega⟩
        have htr : ∀ e z, FO x n e v cl s z → FO x n e v cl τ z := fun e z hz => FO_tr hz (fE_P hE2) (hE2.2.1 29 v (by omega) (by omega))
        rw [heq] at h0 hok her
        rw [yOpen] at h0 hok her
        by_cases hone : isOne (yOne tk2.2.2.1) = true
        · have hk3 := one_in hone (rK_24 hK2)
          have hlt : tk2.2.1 < tk2.1 := by
            rcases b1.2.2.1 with q | q
            · rw [q] at hone; exact absurd hone (by decide)
            · exact q
          obtain ⟨m2, rfl⟩ : ∃ g, m2 = g + 1 := ⟨m2 - 1, by omega⟩
          rw [wkN hV2.2.2.1 hV2.2.2.2.2.2.2 (by omega), part1 hV2.2.2.1 hK2 hk3, hV2.2.1.2.1]
          rw [if_pos hone] at h0 hok her
          cases hpre : xb (ne (ns + l.length) tk2.2.1) (fun _ => fo tc c2 tk2.2.1) with
          | error e =>
            obtain ⟨he0, u, hu1, hu2⟩ := b32E hn hN hV2 hB2' hpre
            rw [hu1, obd_s]
            refine deadV hu2 (by omega) he0 (by omega) (fun r z hz => her e r z ?_ he0 (htr e z hz))
            cases hne : ne (ns + l.length) tk2.2.1 with
            | error e' => rw [hne, xb_e] at hpre; cases hpre; rfl
            | ok y => rw [hne, xb_k] at hpre; rw [xb_k, hpre]; rfl
          | ok c3 =>
            cases hne : ne (ns + l.length) tk2.2.1 with
            | error e' => rw [hne] at hpre; cases hpre
            | ok y =>
              rw [hne, xb_k] at hpre
              simp only [hne, xb_k, hpre] at h0 hok her
              obtain ⟨hc1, hc2⟩ := fo_kk hpre
              have hns40 := ne_kk hne
              rw [b32R hn hN hV2 hB2' hk3 hne hpre, obd_s]
              have hV3 : RV x n tc G L tk2 c3 (ns + l.length + 1) (nd2 + 1) (w2' + 1 + 1) (wtS (zsA (ndS (zsI (zsI s 0 37 (nI (ns + l.length + 1))) 0 36 (nI c3)) 5 nd2) 19 nd2 (yOne tk2.2.2.1)) (w2' + 1) 4 (nI nd2) (-1)) := RV_wt (RV_A (RV_nd (RV_36 (RV_37 hV2))) (by omega))
              have hE3 : fE nd2 (w2' + 1) s (wtS (zsA (ndS (zsI (zsI s 0 37 (nI (ns + l.length + 1))) 0 36 (nI c3)) 5 nd2) 19 nd2 (yOne tk2.2.2.1)) (w2' + 1) 4 (nI nd2) (-1)) := wtS_E (fE_A (ndS_E (fE_I (fE_I fE_refl (by omega)) (by omega)) (Nat.le_refl _)) (by omega)) (Nat.le_refl _)
              have hS3 : STK (wtS (zsA (ndS (zsI (zsI s 0 37 (nI (ns + l.length + 1))) 0 36 (nI c3)) 5 nd2) 19 nd2 (yOne tk2.2.2.1)) (w2' + 1) 4 (nI nd2) (-1)) v lo cl ((yOne tk2.2.2.1, fZ) :: l) ops (w2' + 1 + 1) (nd2 + 1) (nd2 + 1) := by
                obtain ⟨q1, q2, q3, q4, q5⟩ := STK_fE (nd' := nd2) hS2 hE3 (Nat.le_refl _)
                refine ⟨q1, fun o ho => ?_, q3, ⟨w2' + 1, nd2, nd2, rfl, q4, q5, rfl, by omega, wtS_t.2.1, ?_, ?_, ?_, ?_, ?_⟩, Nat.le_refl _⟩
                · rcases List.mem_cons.mp ho with e | e
                  · rw [e]; exact hone
                  · exact q2 o e
                · rw [wtS_A (by omega), zA_A, if_neg (by omega), nd17]
                · rw [wtS_A (by omega), zA_A, if_neg (by omega), nd18]
                · rw [wtS_A (by omega), zA_A, if_neg (by omega), nd20]
                · rw [wtS_A (by omega), zA_A, if_neg (by omega), nd21]
                · rw [if_pos hone]
                  refine ⟨wtS_t.1, ?_, ?_, rfl⟩
                  · rw [wtS_A (by omega), zA_A, if_neg (by omega), nd15]
                  · rw [wtS_A (by omega), zA_A, if_pos ⟨rfl, rfl⟩]
              revert hV3 hE3 hS3
              generalize wtS (zsA (ndS (zsI (zsI s 0 37 (nI (ns + l.length + 1))) 0 36 (nI c3)) 5 nd2) 19 nd2 (yOne tk2.2.2.1)) (w2' + 1) 4 (nI nd2) (-1) = s3
              intro hV3 hE3 hS3
              have hE3τ : fE lo (v + 1) τ s3 := fE_trans hE2 hE3 (by have := rOps_le hS2.2.2.2.1; have := hS2.2.2.2.2; omega) (by omega)
              cases hcm : cm x n tk2 with
              | error e =>
                rw [hcm] at her
                have he0 := cm_ne hn hcm b1.2.1
                have hpd := PD_nx (τ := s3) hcm hV3.2.2.1
                obtain ⟨m2, rfl⟩ : ∃ g, m2 = g + 2 := ⟨m2 - 2, by omega⟩
                exact badF (v := v) (cl := cl) (K := -1) (w := w2' + 1) (rD_le (rD_nx (RV_rD hV3 b1.2.1 (by omega)) b1.2.1) (by omega)) ((nxS_I (by omega)).trans hV3.2.2.2.2.2.2) (by omega) hpd.1 (PD_K hpd) (by decide) (stE_P hpd).symm he0 (fun r y hy => her e r y rfl he0 (FO_tr hy (nxS_P (fE_P hE3τ)) (by rw [nxS_A]; exact hE3τ.2.1 29 v (by omega) (by omega))))
              | ok t1 =>
                rw [hcm] at h0 hok her
                have ht1 := sat_get (cm_ok (x := x) (n := n) (t := tk2) (by omega) b1.2.1) hcm
                have hh1 := ht1.2
                refine ih2 ((yOne tk2.2.2.1, fZ) :: l) t1 c3 (nd2 + 1) (w2' + 1 + 1) m2 (nxS x n tk2.1 s3) (RV_n hcm hV3) ⟨ht1.1, by omega, b3, by rw [List.length_cons]; omega, by omega, by omega⟩ (STK_fE (nd' := nd2 + 1) hS3 (nxS_E fE_refl) (Nat.le_refl _)) (by omega) (nxS_E hE3τ) (by omega) (by omega) ?_ ?_
                · intro o ho
                  rcases List.mem_cons.mp ho with e | e
                  · rw [e]
                  · exact hlz o e
                · rw [heq, yOpen, if_pos hone, hne, xb_k, hpre, xb_k, hcm]
                  rfl
        · rw [if_neg hone, xb_k] at h0 hok her
          unfold yRest at h0 hok her
          have hlen : l.length ≤ ns + l.length := by omega
          -- what is wrong with the part
          have hOKL : OK1 x n tc G L N tk2 (ns + l.length) nd2 (w2' + 1) s Q (yOper x n tc R G L (ns + l.length) tk2 c2) := by
            intro t tk' c' i nd' m' u hres hVu hBu hEu hndu hrep h21i hi hplu hmu
            simp only [hres, xb_k] at h0 hok her
            have hSu := STK_fE (nd' := nd') hS2 hEu hndu
            have hEuτ : fE lo (v + 1) τ u := fE_trans hE2 hEu (by have := rOps_le hS2.2.2.2.1; have := hS2.2.2.2.2; omega) (by omega)
            have htru : ∀ e z, FO x n e v cl u z → FO x n e v cl τ z := fun e z hz => FO_tr hz (fE_P hEuτ) (hEuτ.2.1 29 v (by omega) (by omega))
            have hcl := clO_app (ops := ops) (fun o ho => hS2.2.2.1 o ho) l t hS2.2.1
            by_cases hset : yEnds cl tk'.2.2.1 = false ∧ rk tk'.2.2.1 = 0
            · rw [if_pos hset] at her
              have hBlu := BD_le hBu hn
              have he0 : (2 : Int32) + 16 * nI tk'.2.1 ≠ 0 := er_ne erK2 (by omega)
              obtain ⟨m', rfl⟩ : ∃ g, m' = g + 2 := ⟨m' - 2, by have := hBu.1.1; have := hBu.1.2.1; omega⟩
              exact partF (ns := ns) hN (rD_le (RV_D hVu hBu hn) (by omega)) hVu.2.2.1 hSu.1 hSu.2.1 hSu.2.2.1 hSu.2.2.2.1 hVu.2.2.2.2.2.2 (by omega) hVu.2.2.2.2.1 hSu.2.2.2.2 (rT_K hVu.2.1) hset.1 hset.2 (stE_T hVu.2.1 hBu.1.2.2.2).symm he0 hi (fun r z hz => her _ r z rfl he0 (htru _ z hz))
            · rw [if_neg hset, hcl] at her hok h0
              have hreps : rep u t nd2 nd' (nI i) := hrep
              refine afterP (Y := fun _ => .error 0) (R := R) (f := f) hn hN hVu hBu hSu hreps h21i hi hmu hset _ rfl ?_ ?_ ?_
              · intro i' m'' z hrk hVz hBz hEz hrz h21z hiz hEnd hmz
                rw [if_pos hrk] at hok
                exact hok _ tk' c' i' nd' m'' z rfl hVz hBz (fE_trans hEuτ hEz (Nat.le_refl _) (Nat.le_refl _)) (by omega) hrz h21z hiz hEnd (by omega) hmz
              · intro c3 t3 m'' w' z hrk hfo hcm hVz hBz hEz hSz hmz
                rw [if_neg hrk] at hok her h0
                simp only [hfo, xb_k, hcm] at hok her h0
                have ht3 := sat_get (cm_ok (x := x) (n := n) (t := tk') (by omega) hBu.1.2.1) hcm
                have hpl3 : tk'.2.1 ≤ t3.2.1 := by have := ht3.2; have := hBu.1.1; omega
                have hEzτ := fE_trans hEuτ hEz (Nat.le_refl _) (Nat.le_refl _)
                refine ih _ ns cl t3 c3 (nd' + 1) v w' lo m'' z Q hVz hBz hSz hmz h0 ?_ ?_
                · intro t' tk'' c'' i'' nd'' m3 y hres3 hVy hBy hEy hndy hry h21y hiy hEnd hply hmy
                  exact hok t' tk'' c'' i'' nd'' m3 y hres3 hVy hBy (fE_trans hEzτ hEy (Nat.le_refl _) (Nat.le_refl _)) (by omega) hry h21y hiy hEnd (by omega) hmy
                · intro e r y hres3 he0 hfo3
                  exact her e r y hres3 he0 (FO_tr hfo3 (fE_P hEzτ) (hEzτ.2.1 29 v (by omega) (by omega)))
              · intro e r z hres3 he0 hfo3
                exact her e r z hres3 he0 (htru e z hfo3)
          have hERL : ER1 x n v cl s Q (yOper x n tc R G L (ns + l.length) tk2 c2) := by
            intro e r u hres he0 hfo
            simp only [hres, xb_e] at her
            exact her e r u rfl he0 (htr e u hfo)
          have h0L : yOper x n tc R G L (ns + l.length) tk2 c2 ≠ .error 0 := fun q => h0 (by simp only [q]; rfl)
          by_cases k41 : tk2.2.2.1 = 41
          · exact opNum hn hN hV2 hB2' hS2 hlen hm2 k41 hOKL hERL
          by_cases k40 : tk2.2.2.1 = 40
          · refine opName hn hN hG hLn hR hW hV2 hB2' hS2 hlen hm2 k40 h0L hOKL ?_ hERL
            intro t tk' c' mis e r u hres hcase he0 hfo
            simp only [hres, xb_k] at her
            rcases hcase with ⟨q1, q2, q3⟩ | ⟨q1, p, q2, q3⟩
            · rw [if_pos ⟨q1, q2⟩] at her
              exact her e r u (by rw [q3]; rfl) he0 (htr e u hfo)
            · rw [if_neg q1] at her
              simp only [q2] at her
              exact her e r u (by rw [q3]; rfl) he0 (htr e u hfo)
          by_cases k48 : tk2.2.2.1 = 48
          · exact opRead hn hN hV2 hB2' hS2 hlen hm2 k48 hOKL hERL
          by_cases k49 : tk2.2.2.1 = 49
          · exact opBr hn hN hR hV2 hB2' hS2 hlen hm2 k49 h0L hOKL hERL
          · -- none of these can begin a part
            have hye : yOper x n tc R G L (ns + l.length) tk2 c2 = er 2 tk2.2.1 := by
              unfold yOper
              rw [if_neg k41, if_neg k40, if_neg k48, if_neg k49]
            have he0 : (2 : Int32) + 16 * nI tk2.2.1 ≠ 0 := er_ne erK2 (by omega)
            obtain ⟨m2, rfl⟩ : ∃ g, m2 = g + 2 := ⟨m2 - 2, by omega⟩
            refine badF (v := v) (cl := cl) (K := tk2.2.2.1) (w := w2') (rD_le (RV_D hV2 hB2' hn) (by omega)) hV2.2.2.2.2.2.2 (by omega) hV2.2.2.1 hK2 ⟨?_, ?_, ?_, k41, k48, k49, k40⟩ (stE_T hV2.2.1 b1.2.2.2).symm he0 (fun r z hz => hERL _ r z hye he0 hz)
            · intro q; rw [q] at hone; exact hone (by decide)
            · intro q; rw [q] at hone; exact hone (by decide)
            · intro q; rw [q] at hone; exact hone (by decide)
    exact hones 42 [] tk c nd w m τ hV hB hS hm fE_refl (Nat.le_refl _) (Nat.le_refl _) (fun o ho => (List.not_mem_nil ho).elim) rfl
def stk {α : Type} (r : Except Int32 α) (Q : α → Prop) : Prop := ∀ v, r = .ok v → Q v
theorem stk_xb {α β : Type} {a : Except Int32 α} {f : α → Except Int32 β} {R : β → Prop} (hf : ∀ v, a = .ok v → stk (f v) R) : stk (xb a f) R := by
  intro v hv
  cases a with
  | error e => cases hv
  | ok w => exact hf w rfl v hv
theorem stk_ok {α : Type} {v : α} {Q : α → Prop} (h : Q v) : stk (.ok v) Q := by
  intro w hw
  cases hw
  exact h
theorem stk_er {α : Type} {k : Int32} {p : Nat} {Q : α → Prop} : stk (er k p) Q := by
  intro w hw
  cases hw
def isN (t : fT) : Prop := ∃ k v w A B C, t = fN k v w A B C
theorem isN_N {k : Nat} {v w : Int} {A B C : fT} : isN (fN k v w A B C) := ⟨_, _, _, _, _, _, rfl⟩
theorem vrN_isN {G : gE} {L : lE} (q : Nat ⊕ Nat) : isN (vrN G L q) := by
  cases q with
  | inl j => exact isN_N
  | inr g => exact isN_N
theorem yCall_isN {x : Nat → Int32} {n : Nat} {R : yRec} {G : gE} {q : Nat ⊕ Nat} {p ns : Nat} {tk : yTok} {c : Nat} : stk (yCall x n R G q p ns tk c) (fun u => isN u.1) := by
  unfold yCall
  split
  · refine stk_xb (fun _ _ => stk_xb (fun t2 _ => stk_xb (fun v _ => ?_)))
    split
    · exact stk_xb (fun t4 _ => stk_ok isN_N)
    · exact stk_er
  · exact stk_er
theorem yOper_isN {x : Nat → Int32} {n tc : Nat} {R : yRec} {G : gE} {L : lE} {ns : Nat} {tk : yTok} {c : Nat} (hR : ∀ ns cl tk c, stk (R ns cl tk c) (fun u => isN u.1)) : stk (yOper x n tc R G L ns tk c) (fun u => isN u.1) := by
  unfold yOper
  split
  · refine stk_xb (fun c1 _ => ?_)
    split
    · exact stk_er
    · exact stk_xb (fun t1 _ => stk_ok isN_N)
  · split
    · unfold yNamed
      split
      · exact stk_er
      · refine stk_xb (fun c1 _ => stk_xb (fun t1 _ => ?_))
        split
        · exact stk_xb (fun u hu => stk_ok (yCall_isN u hu))
        · split
          · exact stk_xb (fun u _ => stk_ok isN_N)
          · exact stk_ok (vrN_isN _)
    · split
      · exact stk_xb (fun c1 _ => stk_xb (fun t1 _ => stk_xb (fun _ _ => stk_xb (fun _ _ => stk_xb (fun t2 _ => stk_xb (fun _ _ => stk_xb (fun t3 _ => stk_ok isN_N)))))))
      · split
        · refine stk_xb (fun u hu => stk_ok ?_)
          have : stk (yBr x n R ns tk c) (fun u => isN u.1) := by
            unfold yBr
            exact stk_xb (fun _ _ => stk_xb (fun _ _ => stk_xb (fun t2 _ => stk_xb (fun v hv => stk_xb (fun t4 _ => stk_ok (hR _ _ _ _ v hv))))))
          exact this u hu
        · exact stk_er
theorem wrap_isN : ∀ (l : yOps) (t : fT), isN t → isN (wrap l t) := by
  intro l
  induction l with
  | nil => intro t h; exact h
  | cons o r ih => intro t h; exact ih _ isN_N
theorem opN_isN {s : Int32} {A B : fT} : isN (opN s A B) := by
  unfold opN
  split
  · exact isN_N
  · split
    · exact isN_N
    · exact isN_N
theorem clO_isN : ∀ (l : yOps) (t : fT), isN t → isN (clO l t).2 := by
  intro l
  induction l with
  | nil => intro t h; exact h
  | cons o r ih =>
    intro t h
    unfold clO
    split
    · exact ih _ isN_N
    · exact h
theorem jnA_isN {k : Nat} : ∀ (l : yOps) (t : fT), isN t → isN (jnA k l t).2 := by
  intro l
  induction l with
  | nil => intro t h; exact h
  | cons o r ih =>
    intro t h
    unfold jnA
    split
    · exact h
    · exact ih _ opN_isN
theorem yLoop_isN {x : Nat → Int32} {n tc : Nat} {R : yRec} {G : gE} {L : lE} (hR : ∀ ns cl tk c, stk (R ns cl tk c) (fun u => isN u.1)) : ∀ (f : Nat) (ops : yOps) (ns : Nat) (cl : Int32) (tk : yTok) (c : Nat), stk (yLoop x n tc G L R f ops ns cl tk c) (fun u => isN u.1) := by
  intro f
  induction f with
  | zero => intro ops ns cl tk c v hv; cases hv
  | succ f ih =>
    intro ops ns cl tk c
    unfold yLoop
    refine stk_xb (fun o _ => stk_xb (fun u hu => ?_))
    split
    · exact stk_er
    · split
      · exact stk_er
      · split
        · exact stk_ok (jnA_isN _ _ (clO_isN _ _ (yOper_isN hR u hu)))
        · exact stk_xb (fun c3 _ => stk_xb (fun t3 _ => ih _ _ _ _ _))
theorem yE_isN {x : Nat → Int32} {n tc : Nat} {G : gE} {L : lE} : ∀ (d ns : Nat) (cl : Int32) (tk : yTok) (c : Nat), stk (yE x n tc G L d ns cl tk c) (fun u => isN u.1) := by
  intro d
  induction d with
  | zero => intro ns cl tk c v hv; cases hv
  | succ d ih => intro ns cl tk c; exact yLoop_isN ih _ _ _ _ _ _
theorem yE_rW {x : Nat → Int32} {n tc : Nat} {G : gE} {L : lE} (d : Nat) : rW (yE x n tc G L d) := fun ns cl tk c _ _ _ h => yE_isN d ns cl tk c _ h
theorem levR {x : Nat → Int32} {n tc : Nat} {G : gE} {L : lE} {N : Nat} (hn : n ≤ 512) (hN : 5000 ≤ N) (hG : G.2.2.2.2 ≤ 1400) (hLn : L.2.2 ≤ 1400) : ∀ d, LVp x n tc G L N (yE x n tc G L d) := by
  intro d
  induction d with
  | zero => intro ns cl tk c nd v m τ Q _ _ _ _ h0; exact absurd rfl h0
  | succ d ih =>
    intro ns cl tk c nd v m τ Q hV hB hop hm h0 hok her
    refine loopR hn hN hG hLn ih (yE_rW d) (n + 2) [] ns cl tk c nd v (v + 1) nd m τ Q hV hB ⟨hop, fun o ho => (List.not_mem_nil ho).elim, fun o ho => (List.not_mem_nil ho).elim, ⟨rfl, rfl⟩, Nat.le_refl _⟩ hm h0 ?_ her
    intro t tk' c' i nd' m' u hres hVu hBu hEu hndu hrep h21 hi hEnd hpl hmu
    obtain ⟨k1, v1, w1, A1, B1, C1, rfl⟩ := yE_rW (d + 1) ns cl tk c _ _ _ hres
    obtain ⟨m1, e1, e2, e3⟩ := rep_pos hrep
    have em : i = m1 := (nI_eq (by omega) (by omega)).mp e1
    subst em
    exact hok _ tk' c' i nd' m' u hres hVu hBu hEu hndu hrep h21 hi e3 hEnd hpl hmu
