/-! THE REFERENCE'S READER: a FUNCTION from its opening bracket on -/
theorem yPars_le {x : Nat → Int32} {n : Nat} (hn : n ≤ 4096) : ∀ (f : Nat) (L : lE) (tk : yTok), tkO n tk → L.2.2 ≤ tk.2.1 → n + 1 ≤ f + tk.2.1 → sat (yPars x n f L tk) (fun u => u.1.2.2 ≤ u.2.2.1) := by
  intro f
  induction f with
  | zero => intro L tk htk _ h; have := htk.1; have := htk.2.1; omega
  | succ f ih =>
    intro L tk htk hL hf
    have hp2 : tk.2.1 ≤ 4096 := by have := htk.1; have := htk.2.1; omega
    unfold yPars
    refine sat_xb (need_ok hp2) (fun _ _ hk => sat_xb (cm_ok hn htk.2.1) (fun t1 _ ht1 => ?_))
    have hlt := tk_ne htk hk (by decide)
    have hp3 : t1.2.1 ≤ 4096 := by have := ht1.1.1; have := ht1.1.2.1; omega
    have hh1 := ht1.2
    refine sat_xb (need_ok hp3) (fun _ _ hk1 => ?_)
    split
    · exact sat_er erK4 hp3
    · split
      · exact sat_er erK6 hp3
      · refine sat_xb (cm_ok hn ht1.1.2.1) (fun t2 _ ht2 => ?_)
        have hh2 := ht2.2
        have hh3 := ht1.1.1
        split
        · refine sat_xb (cm_ok hn ht2.1.2.1) (fun t3 _ ht3 => ?_)
          have hh4 := ht3.2
          have hh5 := ht2.1.1
          exact ih _ t3 ht3.1 (by show L.2.2 + 1 ≤ t3.2.1; omega) (by omega)
        · show L.2.2 + 1 ≤ t2.2.1
          omega
def lE0 : lE := (fun _ => 0, fun _ => 0, 0)
theorem yHP_le {x : Nat → Int32} {n : Nat} (hn : n ≤ 4096) {tk : yTok} (h : tkO n tk) : sat (yHP x n (n + 2) lE0 tk) (fun u => u.1.2.2 ≤ u.2.2.1) := by
  unfold yHP
  rw [if_pos (show lE0.2.2 = 0 from rfl)]
  split
  · exact Nat.zero_le _
  · exact yPars_le hn _ _ _ h (Nat.zero_le _) (by omega)
theorem yHP_ne {x : Nat → Int32} {n : Nat} (hn : n ≤ 4096) {tk : yTok} (h : tkO n tk) : sat (yHP x n (n + 2) lE0 tk) (fun u => u.1.2.2 ≤ 8 ∧ tkO n u.2 ∧ tk.2.1 ≤ u.2.2.1) := by
  unfold yHP
  rw [if_pos (show lE0.2.2 = 0 from rfl)]
  split
  · exact ⟨Nat.zero_le _, h, Nat.le_refl _⟩
  · exact yPars_ok hn _ _ _ h (Nat.zero_le _) (by omega)
theorem PR_ns {x : Nat → Int32} {n tc : Nat} {G : gE} {w0 : Int64} {L : lE} {tk : yTok} {c ns ns' nd : Nat} {u : zSt} (hV : PR x n tc G w0 L tk c ns nd u) : PR x n tc G w0 L tk c ns' nd (zsI u 0 37 (nI ns')) := by
  obtain ⟨⟨⟨s1, s2, s3⟩, g1, g3⟩, t1, h1, h2, h3, h4, h5, h6, h7, h8, h9, h10, h11, h12, h13⟩ := hV
  refine ⟨⟨⟨?_, s2, s3⟩, ?_, g3⟩, ?_, ?_, ?_, ?_, ?_, ?_, h6, ?_, ?_, ?_, h10, h11, h12, h13⟩
  · simp only [zI_I, zI_L, zI_R, zI_A, zI_B, zL_I, zL_L, zL_R, zL_A, zL_B, zA_I, zA_L, zA_R, zA_A, zA_B, zB_I, zB_L, zB_R, zB_A, zB_B, reduceIte, Nat.reduceEqDiff, Nat.reduceEqDiff, false_and, and_false, true_and, and_true, ne_eq, not_false_eq_true, not_true_eq_false]; exact s1
  · simp only [zI_I, zI_L, zI_R, zI_A, zI_B, zL_I, zL_L, zL_R, zL_A, zL_B, zA_I, zA_L, zA_R, zA_A, zA_B, zB_I, zB_L, zB_R, zB_A, zB_B, reduceIte, Nat.reduceEqDiff, Nat.reduceEqDiff, false_and, and_false, true_and, and_true, ne_eq, not_false_eq_true, not_true_eq_false]; exact g1
  · unfold rT; simp only [zI_I, zI_L, zI_R, zI_A, zI_B, zL_I, zL_L, zL_R, zL_A, zL_B, zA_I, zA_L, zA_R, zA_A, zA_B, zB_I, zB_L, zB_R, zB_A, zB_B, reduceIte, Nat.reduceEqDiff, Nat.reduceEqDiff, false_and, and_false, true_and, and_true, ne_eq, not_false_eq_true, not_true_eq_false]; exact t1
  · simp only [zI_I, zI_L, zI_R, zI_A, zI_B, zL_I, zL_L, zL_R, zL_A, zL_B, zA_I, zA_L, zA_R, zA_A, zA_B, zB_I, zB_L, zB_R, zB_A, zB_B, reduceIte, Nat.reduceEqDiff, Nat.reduceEqDiff, false_and, and_false, true_and, and_true, ne_eq, not_false_eq_true, not_true_eq_false]; exact h1
  · simp only [zI_I, zI_L, zI_R, zI_A, zI_B, zL_I, zL_L, zL_R, zL_A, zL_B, zA_I, zA_L, zA_R, zA_A, zA_B, zB_I, zB_L, zB_R, zB_A, zB_B, reduceIte, Nat.reduceEqDiff, Nat.reduceEqDiff, false_and, and_false, true_and, and_true, ne_eq, not_false_eq_true, not_true_eq_false]; exact h2
  · simp only [zI_I, zI_L, zI_R, zI_A, zI_B, zL_I, zL_L, zL_R, zL_A, zL_B, zA_I, zA_L, zA_R, zA_A, zA_B, zB_I, zB_L, zB_R, zB_A, zB_B, reduceIte, Nat.reduceEqDiff, Nat.reduceEqDiff, false_and, and_false, true_and, and_true, ne_eq, not_false_eq_true, not_true_eq_false]
  · simp only [zI_I, zI_L, zI_R, zI_A, zI_B, zL_I, zL_L, zL_R, zL_A, zL_B, zA_I, zA_L, zA_R, zA_A, zA_B, zB_I, zB_L, zB_R, zB_A, zB_B, reduceIte, Nat.reduceEqDiff, Nat.reduceEqDiff, false_and, and_false, true_and, and_true, ne_eq, not_false_eq_true, not_true_eq_false]; exact h4
  · simp only [zI_I, zI_L, zI_R, zI_A, zI_B, zL_I, zL_L, zL_R, zL_A, zL_B, zA_I, zA_L, zA_R, zA_A, zA_B, zB_I, zB_L, zB_R, zB_A, zB_B, reduceIte, Nat.reduceEqDiff, Nat.reduceEqDiff, false_and, and_false, true_and, and_true, ne_eq, not_false_eq_true, not_true_eq_false]; exact h5
  · simp only [zI_I, zI_L, zI_R, zI_A, zI_B, zL_I, zL_L, zL_R, zL_A, zL_B, zA_I, zA_L, zA_R, zA_A, zA_B, zB_I, zB_L, zB_R, zB_A, zB_B, reduceIte, Nat.reduceEqDiff, Nat.reduceEqDiff, false_and, and_false, true_and, and_true, ne_eq, not_false_eq_true, not_true_eq_false]; exact h7
  · simp only [zI_I, zI_L, zI_R, zI_A, zI_B, zL_I, zL_L, zL_R, zL_A, zL_B, zA_I, zA_L, zA_R, zA_A, zA_B, zB_I, zB_L, zB_R, zB_A, zB_B, reduceIte, Nat.reduceEqDiff, Nat.reduceEqDiff, false_and, and_false, true_and, and_true, ne_eq, not_false_eq_true, not_true_eq_false]; exact h8
  · simp only [zI_I, zI_L, zI_R, zI_A, zI_B, zL_I, zL_L, zL_R, zL_A, zL_B, zA_I, zA_L, zA_R, zA_A, zA_B, zB_I, zB_L, zB_R, zB_A, zB_B, reduceIte, Nat.reduceEqDiff, Nat.reduceEqDiff, false_and, and_false, true_and, and_true, ne_eq, not_false_eq_true, not_true_eq_false]; exact h9
/-- parameters and BLOCK of a FUNCTION -/
def yFT (x : Nat → Int32) (n tc : Nat) (G : gE) (w : Int64) (a : Int32) (tk : yTok) (c : Nat) : Except Int32 (lE × fT × yTok × Nat × Nat) :=
  xb (cm x n tk) (fun t3 => xb (xb (yHP x n (n + 2) lE0 t3) (fun u => xb (need 50 u.2) (fun _ => .ok u))) (fun u => xb (yFB x n tc (gAdd G w 2 a (nI u.1.2.2)) (lPlace u.1) u.2 c) (fun r => .ok (u.1, r))))
/-- what comes of it -/
def TFQ (x : Nat → Int32) (n tc : Nat) (G : gE) (w : Int64) (a : Int32) (tk : yTok) (nd : Nat) (u : zSt) (res : Except Int32 (lE × fT × yTok × Nat × Nat)) (z : zSt) : Prop :=
  (∀ e, res = .error e → e ≠ 0 ∧ (zI z 0 21 = e ∨ PD e z) ∧ rD x n 1200 z ∧ fP u z) ∧
  (∀ L r tk' c' ms, res = .ok (L, r, tk', c', ms) → ∃ nd', SV x n tc (gAdd G w 2 a (nI L.2.2)) (lPlace L) tk' c' 0 nd' z ∧ BD n tc tk' c' 0 nd' 0 ∧ nd + 1 ≤ nd' ∧ zA z 11 G.2.2.2.2 = nI nd ∧ zA z 12 G.2.2.2.2 = nI ms ∧ rep z (fN 20 0 0 r fZ fZ) nd nd' (nI nd) ∧ tk.2.1 < tk'.2.1 ∧ ms ≤ tk'.2.1 ∧ zI z 0 29 = zI u 0 29 ∧ (∀ a i, 15 ≤ a → a ≤ 21 → i < nd → zA z a i = zA u a i) ∧ (∀ i, i < G.2.2.2.2 → zA z 11 i = zA u 11 i ∧ zA z 12 i = zA u 12 i) ∧ fP u z)
theorem tfR {x : Nat → Int32} {n tc : Nat} {G : gE} {w : Int64} {a : Int32} {N : Nat} {tk : yTok} {c nd : Nat} {τ : zSt} (hn : n ≤ 512) (hN : 5000 ≤ N) (hG : G.2.2.2.2 < 1400) (h1 : rGt x n tc G τ) (h2 : rT tk τ) (h3 : zI τ 0 21 = 0) (h22 : zI τ 0 22 = nI G.2.2.2.2) (h4 : zI τ 0 36 = nI c) (h5 : zI τ 0 37 = nI 0) (h6 : zI τ 0 38 = nI nd) (hB : BD n tc tk c 0 nd 0) (hk : tk.2.2.1 = 49) (h0 : yFT x n tc G w a tk c ≠ .error 0) :
    wp (fX12_tellFunction N w τ) (fun _ z => TFQ x n tc G w a tk nd (tfS τ G.2.2.2.2 w) (yFT x n tc G w a tk c) z) := by
  have hBl := BD_le hB hn
  obtain ⟨b1, b2, b3, b4, b5, b6⟩ := hB
  have hlt := tk_ne b1 hk (by decide)
  rw [tf_eq h22 hG]
  have hP0 : PR x n tc G w lE0 tk c 0 nd (tfS τ G.2.2.2.2 w) := tfS_PR rfl h1 h2 h3 h4 h5 h6
  revert hP0
  generalize tfS τ G.2.2.2.2 w = s0
  intro hP0
  have hK := rT_K hP0.2.1
  rw [opensT (q := 0) (y := ()) (ns := 0) rfl ((sB49 hP0.2.2.1 hK).mpr hk) hP0.2.2.1 hP0.2.2.2.2.1 (by omega) hP0.1.1 hP0.2.1.1 b1.2.1 (by omega), obd_s]
  have hV1 : PR x n tc G w lE0 tk c 1 nd (zsI s0 0 37 (nI 1)) := PR_ns hP0
  have hf1 : fQ G.2.2.2.2 s0 (zsI s0 0 37 (nI 1)) := ⟨fun j hj => by rw [zI_I, if_neg (by omega)], fun a i _ _ => zA_I .., fun a i _ => zB_I ..⟩
  revert hV1 hf1
  show _ → _ → wp (fX12_tellFunction_b84 N N (nxS x n tk.1 (zsI s0 0 37 (nI 1)))) _
  generalize zsI s0 0 37 (nI 1) = s1
  intro hV1 hf1
  obtain ⟨m, hm⟩ : ∃ m, N = m + 2 := ⟨N - 2, by omega⟩
  have hf2 : fQ G.2.2.2.2 s0 (nxS x n tk.1 s1) := fQ_nx hf1
  unfold yFT at h0 ⊢
  cases hcm : cm x n tk with
  | error e =>
    rw [xb_e]
    have he0 := cm_ne hn hcm b1.2.1
    have hpd := PD_nx (τ := s1) hcm hV1.2.2.1
    have hrd := rD_nx (p := tk.1) (PR_rD hV1 b1.2.1 (by omega)) b1.2.1
    have z35 : zI (nxS x n tk.1 s1) 0 35 = nI G.2.2.2.2 := (nxS_I (by omega)).trans hV1.2.2.2.2.2.2.2.2.2.1
    have z30 : zI (nxS x n tk.1 s1) 0 30 = nI 0 := (nxS_I (by omega)).trans hV1.2.2.2.2.2.2.1
    have z10 : zA (nxS x n tk.1 s1) 10 G.2.2.2.2 = nI 0 := nxS_A.trans hV1.2.2.2.2.2.2.2.2.2.2.2.2.2.1
    revert hf2 hpd hrd z35 z30 z10
    generalize nxS x n tk.1 s1 = z
    intro hf2 hpd hrd z35 z30 z10
    have hKz := PD_K hpd
    have hpe : PE x n G.2.2.2.2 e s0 (zsI z 0 21 e) := ⟨by rw [zI_I, if_pos ⟨rfl, rfl⟩], rD_le (rD_I hrd (by omega)) (by omega), ⟨fun j hj => by rw [zI_I, if_neg (by omega)]; exact hf2.1 j hj, hf2.2.1, hf2.2.2⟩, 0, by omega, by rw [zI_I, if_neg (by omega)]; exact z30⟩
    have key : wp (fX12_tellFunction_b84 N (m + 2) z) (fun _ z => FXb x n 1200 e s0 z) := by
      rw [fX12_tellFunction_b84, isWellT hpd.1, obd_s, if_neg (by decide), isSignF (sF50 hpd.1 hKz (by decide)), obd_s, if_pos rfl, z35, nI_clamp (by omega), if_neg (ixN hG (by omega)), z10, if_pos (show nI 0 ≤ 0 by decide)]
      unfold fX12_tellFunction_b118 fX12_parameter
      rw [isWordF (wF42 hpd.1 hKz (by decide)), obd_s, if_pos rfl, strayR, stS_eq hpd.1, stE_P hpd, obd_s, obd_s]
      exact b84E hpe he0 (fun u hu => b125E hN hu he0 (fun z hz => hz))
    rw [← hm] at key
    refine wp_mono key (fun _ v hv => ⟨fun e' h => ?_, fun L r tk' c' ms h => (by cases h)⟩)
    cases h
    exact ⟨he0, Or.inl hv.1, hv.2.1, hv.2.2⟩
  | ok t3 =>
    have ht3 := sat_get (cm_ok (x := x) (n := n) (t := tk) (by omega) b1.2.1) hcm
    rw [hcm, xb_k] at h0
    rw [xb_k]
    have hV3 := PR_n hcm hV1
    revert hf2 hV3
    generalize nxS x n tk.1 s1 = s3
    intro hf2 hV3
    have hsat : sat (xb (yHP x n (n + 2) lE0 t3) (fun u => xb (need 50 u.2) (fun _ => .ok u))) (fun u => u.1.2.2 ≤ u.2.2.1) := by
      refine sat_xb (yHP_le (by omega) ht3.1) (fun u hu hu2 => sat_xb (need_ok ?_) (fun _ _ _ => hu2))
      have q := sat_get (yHP_ne (by omega) ht3.1) hu
      have := q.2.1.1; have := q.2.1.2.1; omega
    have hh3 := ht3.2
    refine parsLR hn hN hG (by omega) N (n + 2) lE0 t3 s3 hV3 ht3.1 (Nat.zero_le _) (by omega) ?_ ?_ ?_
    · intro h; rw [h] at h0; exact h0 rfl
    · intro L' tk' u hres hV' hf' ht' hL' hk' hp'
      rw [hres, xb_k] at h0
      rw [hres, xb_k]
      have hle := sat_get hsat hres
      have hfu := fQ_trans hf2 hf'
      have h0' : yFB x n tc (gAdd G w 2 a (nI L'.2.2)) (lPlace L') tk' c ≠ .error 0 := by
        intro h
        apply h0
        show xb (yFB x n tc (gAdd G w 2 a (nI L'.2.2)) (lPlace L') tk' c) _ = _
        rw [h]; rfl
      refine wp_mono (b125R (a := a) hn hN hG hV' ⟨ht', b2, b3, by omega, by omega, Nat.zero_le _⟩ hL' hle hk' h0') (fun _ z hz => ?_)
      show TFQ x n tc G w a tk nd s0 (xb (yFB x n tc (gAdd G w 2 a (nI L'.2.2)) (lPlace L') tk' c) (fun r => .ok (L', r))) z
      cases hy : yFB x n tc (gAdd G w 2 a (nI L'.2.2)) (lPlace L') tk' c with
      | error e =>
        refine ⟨fun e' h => ?_, fun L r tk' c' ms h => (by cases h)⟩
        cases h
        obtain ⟨q1, q2, q3, q4⟩ := hz.1 e hy
        exact ⟨q1, q2, q3, fP_trans (fQ_P hfu) q4⟩
      | ok v =>
        refine ⟨fun e' h => (by cases h), fun L r tk2 c' ms h => ?_⟩
        cases h
        obtain ⟨nd', q1, q2, q3, q4, q5, q6, q7, q8, q9, q10, q11, q12⟩ := hz.2 r tk2 c' ms hy
        exact ⟨nd', q1, q2, q3, q4, q5, q6, by omega, q8, q9.trans (hfu.1 29 (by omega)), fun a i ha1 ha2 hi => (q10 a i ha1 ha2 hi).trans (hfu.2.1 a i (by omega) (by omega)), fun i hi => ⟨(q11 i hi).1.trans (hfu.2.1 11 i (by omega) (by omega)), (q11 i hi).2.trans (hfu.2.1 12 i (by omega) (by omega))⟩, fP_trans (fQ_P hfu) q12⟩
    · intro e u hres he0 hpe
      rw [hres, xb_e]
      refine b125E hN ⟨hpe.1, hpe.2.1, fQ_trans hf2 hpe.2.2.1, hpe.2.2.2⟩ he0 (fun z hz => ⟨fun e' h => ?_, fun L r tk' c' ms h => (by cases h)⟩)
      cases h
      exact ⟨he0, Or.inl hz.1, hz.2.1, hz.2.2⟩
