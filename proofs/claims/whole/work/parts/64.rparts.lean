/-- what the parts of a call leave as it was; d0: the call's node, (ca, ci): where the next part is linked -/
def fS (nd w d0 ca ci : Nat) (s u : zSt) : Prop := (∀ j, ¬ (j = 17 ∨ j = 18 ∨ j = 19 ∨ j = 21 ∨ j = 36 ∨ j = 37 ∨ j = 38 ∨ j = 54) → zI u 0 j = zI s 0 j) ∧
  (∀ a i, ¬ (15 ≤ a ∧ a ≤ 21 ∧ nd ≤ i) → ¬ (29 ≤ a ∧ a ≤ 33 ∧ w + 1 ≤ i) → ¬ (a = 20 ∧ i = d0) → ¬ (a = ca ∧ i = ci) → ¬ (a = 33 ∧ i = w) → zA u a i = zA s a i) ∧ (∀ a i, zB u a i = zB s a i)
/-- a call whose parts are being read -/
def PS (w d0 p cnt ca ci nd : Nat) (s : zSt) : Prop := zA s 29 w = 3 ∧ zA s 30 w = nI d0 ∧ zA s 32 w = nI p ∧ zA s 20 d0 = nI cnt ∧ zA s ca ci = -1 ∧ d0 < nd ∧ ci < nd ∧ ((zA s 33 w = -1 ∧ ca = 16 ∧ ci = d0) ∨ (zA s 33 w = nI ci ∧ ca = 21))
def rW (R : yRec) : Prop := ∀ ns cl tk c t tk' c', R ns cl tk c = .ok (t, tk', c') → ∃ k v w A B C, t = fN k v w A B C
theorem partsR {x : Nat → Int32} {n tc : Nat} {G : gE} {L : lE} {N : Nat} {R : yRec} (hn : n ≤ 512) (hN : 5000 ≤ N) (hR : LVp x n tc G L N R) (hW : rW R) {ns w d0 p : Nat} {Q : Int32 → zSt → Prop} : ∀ (f : Nat) (tk : yTok) (c nd cnt ca ci m : Nat) (s : zSt),
    RV x n tc G L tk c ns nd (w + 1) s → BD n tc tk c ns nd (w + 1) → PS w d0 p cnt ca ci nd s → n + 5 ≤ m + tk.2.1 → yParts x n R f ns tk c ≠ .error 0 →
    (∀ r k tk' c' nd' m' u i, yParts x n R f ns tk c = .ok (r, k, tk', c') → RV x n tc G L tk' c' ns nd' (w + 1) u → BD n tc tk' c' ns nd' (w + 1) → fS nd w d0 ca ci s u → nd ≤ nd' → zA u 20 d0 = nI (cnt + k) → zA u ca ci = i → rep u r nd nd' i → tk'.2.2.1 = 50 → tk.2.1 < tk'.2.1 → n + 5 ≤ m' + 1 + tk'.2.1 → wp (obd (fX12_endsCall N (nI d0) (nI p) u) (fun r z => fX12_works_b2 N m' r z)) Q) →
    (∀ e r u, yParts x n R f ns tk c = .error e → e ≠ 0 → FX x n e s u → Q r u) → wp (fX12_works_b2 N m (-1) s) Q := by
  intro f
  induction f with
  | zero => intro tk c nd cnt ca ci m s _ _ _ _ h0; exact absurd rfl h0
  | succ f ih =>
    intro tk c nd cnt ca ci m s hV hB hP hm h0 hok her
    obtain ⟨p1, p2, p3, p4, p5, p6, p7, p8⟩ := hP
    have hBl := BD_le hB hn
    have hcase : (zA s 33 w = -1 ∨ ∃ j, j < 4200 ∧ zA s 33 w = nI j) := by
      rcases p8 with ⟨h, -⟩ | ⟨h, -⟩
      · exact Or.inl h
      · exact Or.inr ⟨ci, by omega, h⟩
    unfold yParts at h0 hok her
    refine hR ns 55 tk c nd w m s Q hV hB (Or.inr (Or.inr (Or.inr ⟨p1, rfl, ⟨d0, by omega, p2⟩, hcase⟩))) hm (fun q => h0 (by rw [q]; rfl)) ?_ ?_
    · intro t tk' c' i nd' m' u hres hVu hBu hEu hndu hrep h21i hi hri hEnd hplace hm'
      obtain ⟨b1, b2, b3, b4, b5, b6⟩ := hB
      obtain ⟨k1, v1, w1, A1, B1, C1, rfl⟩ := hW ns 55 tk c _ _ _ hres
      rw [hres, xb_k] at h0 hok her
      have hBl' := BD_le hBu hn
      have hBu' := hBu
      obtain ⟨d1, d2, d3, d4, d5, d6⟩ := hBu
      have u29 := (hEu.2.1 29 w (by omega) (by omega)).trans p1
      have u30 := (hEu.2.1 30 w (by omega) (by omega)).trans p2
      have u32 := (hEu.2.1 32 w (by omega) (by omega)).trans p3
      have u20 := (hEu.2.1 20 d0 (by omega) (by omega)).trans p4
      have u33 : zA u 33 w = zA s 33 w := hEu.2.1 33 w (by omega) (by omega)
      have uc : zA u ca ci = zA s ca ci := hEu.2.1 ca ci (by rcases p8 with ⟨-, q, -⟩ | ⟨-, q⟩ <;> omega) (by rcases p8 with ⟨-, q, -⟩ | ⟨-, q⟩ <;> omega)
      have hca : ca = 16 ∨ ca = 21 := by rcases p8 with ⟨-, q, -⟩ | ⟨-, q⟩ <;> omega
      -- the link
      have hlink : fX12_endsOpen N (nI i) u = fX12_endsOpen_b123 N (nI i) (nI w) (nI d0) (zsA u ca ci (nI i)) := by
        rw [endsO hVu.2.2.2.2.2.2 (by omega) u30 u29, if_neg (by decide), if_neg (by decide), if_pos rfl]
        rcases p8 with ⟨h, rfl, rfl⟩ | ⟨h, rfl⟩
        · rw [u33, h, if_pos rfl, nI_clamp (by omega), if_neg (ixN (k := 4200) (by omega) (by omega))]
        · have hne : ¬ nI ci = -1 := fun q => by have h1 := nI_pos' (n := ci) (by omega); rw [q] at h1; exact absurd h1 (by decide)
          rw [u33, h, if_neg hne, nI_clamp (by omega), if_neg (ixN (show ci < 4200 by omega) (by omega))]
      rw [hlink, endsB (by omega) (by omega)]
      have e20 : zA (zsA (zsA u ca ci (nI i)) 33 w (nI i)) 20 d0 = nI cnt := by
        rw [zA_A, if_neg (by omega), zA_A, if_neg (by omega)]; exact u20
      rw [e20, nI_1]
      have hV4 : RV x n tc G L tk' c' ns nd' (w + 1) (zsA (zsA (zsA u ca ci (nI i)) 33 w (nI i)) 20 d0 (nI (cnt + 1))) := RV_A (RV_A (RV_A hVu (by omega)) (by omega)) (by omega)
      have hfS4 : ∀ a j, ¬ (a = ca ∧ j = ci) → ¬ (a = 33 ∧ j = w) → ¬ (a = 20 ∧ j = d0) → zA (zsA (zsA (zsA u ca ci (nI i)) 33 w (nI i)) 20 d0 (nI (cnt + 1))) a j = zA u a j := by
        intro a j q1 q2 q3
        rw [zA_A, if_neg q3, zA_A, if_neg q2, zA_A, if_neg q1]
      have z33 : zA (zsA (zsA (zsA u ca ci (nI i)) 33 w (nI i)) 20 d0 (nI (cnt + 1))) 33 w = nI i := by rw [zA_A, if_neg (by omega), zA_A, if_pos ⟨rfl, rfl⟩]
      have z20 : zA (zsA (zsA (zsA u ca ci (nI i)) 33 w (nI i)) 20 d0 (nI (cnt + 1))) 20 d0 = nI (cnt + 1) := by rw [zA_A, if_pos ⟨rfl, rfl⟩]
      have zc : zA (zsA (zsA (zsA u ca ci (nI i)) 33 w (nI i)) 20 d0 (nI (cnt + 1))) ca ci = nI i := by rw [zA_A, if_neg (by omega), zA_A, if_neg (by omega), zA_A, if_pos ⟨rfl, rfl⟩]
      have hP4 : fP s (zsA (zsA (zsA u ca ci (nI i)) 33 w (nI i)) 20 d0 (nI (cnt + 1))) := fP_A (fP_A (fP_A (fE_P hEu) (by omega)) (by omega)) (by omega)
      have hI4 : ∀ j, zI (zsA (zsA (zsA u ca ci (nI i)) 33 w (nI i)) 20 d0 (nI (cnt + 1))) 0 j = zI u 0 j := fun j => rfl
      have hB4 : ∀ a j, zB (zsA (zsA (zsA u ca ci (nI i)) 33 w (nI i)) 20 d0 (nI (cnt + 1))) a j = zB u a j := fun a j => rfl
      revert hV4 hfS4 z33 z20 zc hP4 hI4 hB4
      generalize zsA (zsA (zsA u ca ci (nI i)) 33 w (nI i)) 20 d0 (nI (cnt + 1)) = s4
      intro hV4 hfS4 z33 z20 zc hP4 hI4 hB4
      have hK4 := rT_K hV4.2.1
      have hrep4 : rep s4 (fN k1 v1 w1 A1 B1 C1) nd nd' (nI i) := by
        refine rep_frame _ _ _ _ (fun j hj => ⟨hj, fun a q1 q2 => hfS4 a j ?_ ?_ ?_⟩) hrep
        · have := hj.1; omega
        · omega
        · have := hj.1; omega
      have hfSs4 : fS nd w d0 ca ci s s4 := by
        refine ⟨fun j hj => (hI4 j).trans (hEu.1 j hj), fun a j q1 q2 q3 q4 q5 => (hfS4 a j q4 q5 q3).trans (hEu.2.1 a j q1 q2), fun a j => (hB4 a j).trans (hEu.2.2 a j)⟩
      have h4i : zA s4 21 i = -1 := (hfS4 21 i (by have := hri.1; omega) (by omega) (by omega)).trans h21i
      by_cases h55 : tk'.2.2.1 = 55
      · have hlt' := tk_ne d1 h55 (by decide)
        rw [if_pos h55] at h0 hok her
        rw [isSignT ((sB55 hV4.2.2.1 hK4).mpr h55), obd_s, if_neg (by decide), nextV hV4 hBl'.2.2.2 (by omega), obd_s, obd_s]
        cases hcm : cm x n tk' with
        | error e =>
          rw [hcm, xb_e] at her
          have he0 := cm_ne hn hcm hBl'.2.2.2
          have hpd := PD_nx (τ := s4) hcm hV4.2.2.1
          have hD5 := rD_nx (p := tk'.1) (RV_rD hV4 hBl'.2.2.2 (by omega)) hBl'.2.2.2
          obtain ⟨m', rfl⟩ : ∃ g, m' = g + 2 := ⟨m' - 2, by omega⟩
          refine badF (v := w) (cl := 55) (K := -1) (w := w) (rD_le hD5 (by omega)) ((nxS_I (by omega)).trans hV4.2.2.2.2.2.2) (by omega) hpd.1 (PD_K hpd) (by decide) (stE_P hpd).symm he0 (fun r z hz => ?_)
          have hfx := FO_in hz (by rw [nxS_A, hfS4 29 w (by omega) (by omega) (by omega), u29]; decide)
          exact her e r z rfl he0 ⟨hfx.1, hfx.2.1, fP_trans (nxS_P hP4) hfx.2.2⟩
        | ok t2 =>
          rw [hcm, xb_k] at h0 hok her
          have ht2 := sat_get (cm_ok (x := x) (n := n) (t := tk') (by omega) hBl'.2.2.2) hcm
          have hh2 := ht2.2
          have hq1 := ht2.1.1
          have hq2 := ht2.1.2.1
          refine ih t2 c' nd' (cnt + 1) 21 i m' (nxS x n tk'.1 s4) (RV_n hcm hV4) ⟨ht2.1, d2, d3, d4, by omega, by omega⟩ ⟨?_, ?_, ?_, ?_, ?_, by omega, hri.2, Or.inr ⟨?_, rfl⟩⟩ (by omega) (fun q => h0 (by rw [q]; rfl)) ?_ ?_
          · rw [nxS_A, hfS4 29 w (by omega) (by omega) (by omega)]; exact u29
          · rw [nxS_A, hfS4 30 w (by omega) (by omega) (by omega)]; exact u30
          · rw [nxS_A, hfS4 32 w (by omega) (by omega) (by omega)]; exact u32
          · rw [nxS_A]; exact z20
          · rw [nxS_A]; exact h4i
          · rw [nxS_A]; exact z33
          · intro r k tk2 c2 nd2 m2 u2 i2 hres2 hVu2 hBu2 hfS2 hnd2 hcnt2 hslot2 hrep2 hk50 hpl2 hm2
            rw [hres2, xb_k] at hok
            refine hok _ _ tk2 c2 nd2 m2 u2 (nI i) rfl hVu2 hBu2 ?_ (by omega) (by rw [hcnt2]; show nI (cnt + 1 + k) = nI (cnt + (k + 1)); congr 1; omega) ?_ ?_ hk50 (by omega) hm2
            · refine ⟨fun j hj => (hfS2.1 j hj).trans ((nxS_I (by omega)).trans (hfSs4.1 j hj)), fun a j q1 q2 q3 q4 q5 => ?_, fun a j => (hfS2.2.2 a j).trans (nxS_B.trans (hfSs4.2.2 a j))⟩
              refine (hfS2.2.1 a j (by omega) q2 q3 ?_ q5).trans (nxS_A.trans (hfSs4.2.1 a j q1 q2 q3 q4 q5))
              have := hri.1
              omega
            · rw [hfS2.2.1 ca ci (by omega) (by omega) (by omega) (by have := hri.1; omega) (by omega), nxS_A]; exact zc
            · rw [rep_C]
              refine ⟨i, nd', rfl, hi, ⟨hri.1, hri.2⟩, by omega, ?_, ?_⟩
              · refine rep_root (τ := s4) (m := i) (fun j hj => ⟨hj, fun a q1 q2 => ?_, fun q => ?_⟩) hi hrep4
                · rw [hfS2.2.1 a j (by have := hj.2; omega) (by omega) (by have := hj.1; omega) (by omega) (by omega), nxS_A]
                · rw [hfS2.2.1 21 j (by have := hj.2; omega) (by omega) (by omega) (by omega) (by omega), nxS_A]
              · rw [hslot2]
                exact hrep2
          · intro e r u2 hres2 he0 hfx
            rw [hres2, xb_e] at her
            exact her e r u2 rfl he0 ⟨hfx.1, hfx.2.1, fP_trans (nxS_P hP4) hfx.2.2⟩
      · rw [if_neg h55] at h0 hok her
        have h50 : tk'.2.2.1 = 50 := by
          unfold yEnds at hEnd
          rw [decide_eq_true_eq] at hEnd
          rcases hEnd with q | q
          · exact (h55 q).elim
          · exact q.2
        rw [isSignF (sF55 hV4.2.2.1 hK4 h55), obd_s, if_pos rfl, isSignT ((sB50 hV4.2.2.1 hK4).mpr h50), obd_s, if_neg (by decide)]
        rw [hfS4 32 w (by omega) (by omega) (by omega), u32]
        have hfin := hok (fC (fN k1 v1 w1 A1 B1 C1) fZ) 1 tk' c' nd' m' s4 (nI i) rfl hV4 hBu' hfSs4 hndu z20 zc (by
          rw [rep_C, rep_Z]
          exact ⟨i, nd', rfl, hi, hri, Nat.le_refl _, hrep4, rfl, h4i⟩) h50 hplace hm'
        obtain ⟨r, uu, e1, e2⟩ := hfin
        refine ⟨r, uu, ?_, e2⟩
        rw [← e1]
        cases fX12_endsCall N (nI d0) (nI p) s4 with
        | none => rfl
        | some q => rfl
    · intro e r u hres he0 hfo
      rw [hres, xb_e] at her
      exact her e r u rfl he0 (FO_in hfo (by rw [p1]; decide))
