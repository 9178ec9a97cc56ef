/-! THE REFERENCE'S READER: the declaration of a FUNCTION -/
def fW (τ u : zSt) : Prop := (∀ j, j < 17 ∨ 60 ≤ j → zI u 0 j = zI τ 0 j) ∧ (∀ a i, a ≤ 6 ∨ 34 ≤ a → zA u a i = zA τ a i)
theorem fW_refl {τ : zSt} : fW τ τ := ⟨fun _ _ => rfl, fun _ _ _ => rfl⟩
theorem fW_trans {τ u v : zSt} (h : fW τ u) (h2 : fW u v) : fW τ v := ⟨fun j hj => (h2.1 j hj).trans (h.1 j hj), fun a i q => (h2.2 a i q).trans (h.2 a i q)⟩
theorem fP_W {τ u : zSt} (h : fP τ u) : fW τ u := ⟨fun j hj => h.1 j (by omega), h.2⟩
theorem fW_tf {τ : zSt} {g : Nat} {w : Int64} : fW τ (tfS τ g w) := ⟨fun j hj => tfS_I (by omega), fun a i ha => tfS_A (by omega)⟩
theorem fW_nx {n p : Nat} {x : Nat → Int32} {τ u : zSt} (h : fW τ u) : fW τ (nxS x n p u) := ⟨fun j hj => (nxS_I (by omega)).trans (h.1 j hj), fun a i q => nxS_A.trans (h.2 a i q)⟩
theorem fW_I {τ u : zSt} {j : Nat} {v : Int32} (h : fW τ u) (hj : 17 ≤ j ∧ j < 60) : fW τ (zsI u 0 j v) := ⟨fun i hi => by rw [zI_I, if_neg (by omega)]; exact h.1 i hi, h.2⟩
/-- what comes of a declaration -/
def DQ (x : Nat → Int32) (n tc : Nat) (tk : yTok) (τ : zSt) (res : Except Int32 (yP × yTok × Nat)) (z : zSt) : Prop :=
  (∀ e, res = .error e → e ≠ 0 ∧ (zI z 0 21 = e ∨ PD e z) ∧ rD x n 1200 z ∧ fW τ z ∧ ∃ g, g ≤ 1400 ∧ zI z 0 22 = nI g) ∧
  (∀ P' tk' c', res = .ok (P', tk', c') → ∃ nd', PV x n tc P' tk' c' nd' z ∧ BD n tc tk' c' 0 nd' 0 ∧ tk.2.1 < tk'.2.1 ∧ fW τ z)
theorem yFun_T {x : Nat → Int32} {n tc : Nat} {P : yP} {w : Int64} {p : Nat} {tk : yTok} {c : Nat} : yFun x n tc P w p tk c = xb (fo tc c p) (fun c1 => xb (yFT x n tc P.1 w (nI P.2.2.1) tk c1) (fun v => .ok (pFun P w v.1 v.2.1 v.2.2.2.2, v.2.2.1, v.2.2.2.1))) := by
  unfold yFun yFT
  cases fo tc c p with
  | error e => rfl
  | ok c1 =>
    rw [xb_k, xb_k]
    cases cm x n tk with
    | error e => rfl
    | ok t3 =>
      rw [xb_k, xb_k]
      unfold yHP
      rw [if_pos (show lE0.2.2 = 0 from rfl)]
      show xb (if t3.2.2.1 = 50 then .ok (lE0, t3) else yPars x n (n + 2) lE0 t3) _ = _
      generalize (if t3.2.2.1 = 50 then Except.ok (lE0, t3) else yPars x n (n + 2) lE0 t3) = o
      cases o with
      | error e => rfl
      | ok u =>
        rw [xb_k, xb_k]
        cases need 50 u.2 with
        | error e => rfl
        | ok y =>
          rw [xb_k, xb_k, xb_k]
          unfold yFB
          cases cm x n u.2 with
          | error e => rfl
          | ok t5 =>
            rw [xb_k, xb_k]
            cases need 51 t5 with
            | error e => rfl
            | ok y =>
              rw [xb_k, xb_k]
              generalize yBlock x n tc (gAdd P.1 w 2 (nI P.2.2.1) (nI u.1.2.2)) (yS x n tc (gAdd P.1 w 2 (nI P.2.2.1) (nI u.1.2.2)) 42) 0 (lPlace u.1) 0 0 t5 c1 = o
              cases o with
              | error e => rfl
              | ok r => rfl
theorem dfR {x : Nat → Int32} {n tc : Nat} {P : yP} {w : Int64} {p N : Nat} {tk : yTok} {c nd : Nat} {τ : zSt} (hn : n ≤ 512) (hN : 5000 ≤ N) (hG : P.1.2.2.2.2 < 1400) (hP : PV x n tc P tk c nd τ) (hB : BD n tc tk c 0 nd 0) (hp : p ≤ 512) (hk : tk.2.2.1 = 49) (h0 : yFun x n tc P w p tk c ≠ .error 0) :
    wp (obd (fX12_four N (nI p) τ) (fun _ σ33 => obd (fX12_tellFunction N w σ33) (fun _ σ35 => some ((), σ35)))) (fun _ z => DQ x n tc tk τ (yFun x n tc P w p tk c) z) := by
  have hBl := BD_le hB hn
  have hB2 := hB
  obtain ⟨b1, b2, b3, b4, b5, b6⟩ := hB
  rw [yFun_T] at h0 ⊢
  cases hfo : fo tc c p with
  | error e =>
    have he0 : e ≠ 0 := by
      intro h; rw [hfo, h] at h0; exact h0 rfl
    rw [fourE hfo hP.2.2.2.1 hP.2.2.2.2.1 hP.1.2.1 (by omega), obd_s]
    have i22 : zI (zsI (zsI τ 0 21 e) 0 36 (nI (c + 4))) 0 22 = nI P.1.2.2.2.2 := by rw [zI_I, if_neg (by omega), zI_I, if_neg (by omega)]; exact hP.2.1
    have i21 : zI (zsI (zsI τ 0 21 e) 0 36 (nI (c + 4))) 0 21 = e := by rw [zI_I, if_neg (by omega), zI_I, if_pos ⟨rfl, rfl⟩]
    have hrd : rD x n 1100 (zsI (zsI τ 0 21 e) 0 36 (nI (c + 4))) := rD_I (rD_I ⟨hP.1.1, ⟨tk.1, b1.2.1, hP.2.2.1.1⟩, nd, by omega, hP.2.2.2.2.2.2.1⟩ (by omega)) (by omega)
    have hw : fW τ (zsI (zsI τ 0 21 e) 0 36 (nI (c + 4))) := fW_I (fW_I fW_refl (by omega)) (by omega)
    revert i22 i21 hrd hw
    generalize zsI (zsI τ 0 21 e) 0 36 (nI (c + 4)) = s
    intro i22 i21 hrd hw
    rw [tf_eq i22 hG]
    have j21 : zI (tfS s P.1.2.2.2.2 w) 0 21 = e := (tfS_I (by omega)).trans i21
    have j22 : zI (tfS s P.1.2.2.2.2 w) 0 22 = nI (P.1.2.2.2.2 + 1) := by unfold tfS; simp only [zI_I, zI_L, zI_R, zI_A, zI_B, zL_I, zL_L, zL_R, zL_A, zL_B, zA_I, zA_L, zA_R, zA_A, zA_B, zB_I, zB_L, zB_R, zB_A, zB_B, reduceIte, Nat.reduceEqDiff, Nat.reduceEqDiff, false_and, and_false, true_and, and_true, ne_eq, not_false_eq_true, not_true_eq_false]
    have j30 : zI (tfS s P.1.2.2.2.2 w) 0 30 = nI 0 := by unfold tfS; simp only [zI_I, zI_L, zI_R, zI_A, zI_B, zL_I, zL_L, zL_R, zL_A, zL_B, zA_I, zA_L, zA_R, zA_A, zA_B, zB_I, zB_L, zB_R, zB_A, zB_B, reduceIte, Nat.reduceEqDiff, Nat.reduceEqDiff, false_and, and_false, true_and, and_true, ne_eq, not_false_eq_true, not_true_eq_false]; rfl
    have hrd2 : rD x n 1200 (tfS s P.1.2.2.2.2 w) := by
      obtain ⟨⟨s1, s2, s3⟩, ⟨p, r2, r3⟩, d, r4, r5⟩ := hrd
      exact ⟨⟨(tfS_I (by omega)).trans s1, s2, fun j hj => (tfS_A (by omega)).trans (s3 j hj)⟩, ⟨p, r2, (tfS_I (by omega)).trans r3⟩, d, by omega, (tfS_I (by omega)).trans r5⟩
    have hw2 : fW τ (tfS s P.1.2.2.2.2 w) := fW_trans hw fW_tf
    revert j21 j22 j30 hrd2 hw2
    generalize tfS s P.1.2.2.2.2 w = v
    intro j21 j22 j30 hrd2 hw2
    rw [opensD (by rw [j21]; exact he0), obd_s]
    obtain ⟨m, hm⟩ : ∃ m, N = m + 1 := ⟨N - 1, by omega⟩
    have key : wp (fX12_tellFunction_b84 N (m + 1) v) (fun _ z => FXb x n 1200 e v z) := b84E (x := x) (n := n) (fn := P.1.2.2.2.2) (τ := v) ⟨j21, hrd2, fQ_refl, 0, by omega, j30⟩ he0 (fun u hu => b125E hN hu he0 (fun z hz => hz))
    rw [← hm] at key
    refine wp_ret (wp_mono key (fun _ z hz => ⟨fun e' h => ?_, fun P' tk' c' h => (by cases h)⟩))
    cases h
    exact ⟨he0, Or.inl hz.1, hz.2.1, fW_trans hw2 (fP_W hz.2.2), P.1.2.2.2.2 + 1, by omega, (hz.2.2.1 22 (by omega)).trans j22⟩
  | ok c1 =>
    rw [hfo, xb_k] at h0
    rw [xb_k, fourT hfo hP.2.2.2.2.1 hP.1.2.1 b3, obd_s]
    have hc1 : c1 ≤ tc := (sat_get (fo_ok (by omega)) hfo).2
    have hV : PV x n tc P tk c1 nd (zsI τ 0 36 (nI c1)) := PV_36 hP
    have hw : fW τ (zsI τ 0 36 (nI c1)) := fW_I fW_refl (by omega)
    revert hV hw
    generalize zsI τ 0 36 (nI c1) = s
    intro hV hw
    have hy0 : yFT x n tc P.1 w (nI P.2.2.1) tk c1 ≠ .error 0 := by
      intro h; rw [h] at h0; exact h0 rfl
    refine wp_ret (wp_mono (tfR (a := nI P.2.2.1) hn hN hG hV.1 hV.2.2.1 hV.2.2.2.1 hV.2.1 hV.2.2.2.2.1 hV.2.2.2.2.2.1 hV.2.2.2.2.2.2.1 ⟨b1, hc1, b3, b4, b5, b6⟩ hk hy0) (fun _ z hz => ?_))
    have j22 : zI (tfS s P.1.2.2.2.2 w) 0 22 = nI (P.1.2.2.2.2 + 1) := by unfold tfS; simp only [zI_I, zI_L, zI_R, zI_A, zI_B, zL_I, zL_L, zL_R, zL_A, zL_B, zA_I, zA_L, zA_R, zA_A, zA_B, zB_I, zB_L, zB_R, zB_A, zB_B, reduceIte, Nat.reduceEqDiff, Nat.reduceEqDiff, false_and, and_false, true_and, and_true, ne_eq, not_false_eq_true, not_true_eq_false]
    have hw2 : fW τ (tfS s P.1.2.2.2.2 w) := fW_trans hw fW_tf
    show DQ x n tc tk τ _ z
    cases hy : yFT x n tc P.1 w (nI P.2.2.1) tk c1 with
    | error e =>
      obtain ⟨q1, q2, q3, q4⟩ := hz.1 e hy
      refine ⟨fun e' h => ?_, fun P' tk' c' h => (by cases h)⟩
      cases h
      exact ⟨q1, q2, q3, fW_trans hw2 (fP_W q4), P.1.2.2.2.2 + 1, by omega, (q4.1 22 (by omega)).trans j22⟩
    | ok v =>
      obtain ⟨L, r, tk', c', ms⟩ := v
      obtain ⟨nd', q1, q2, q3, q4, q5, q6, q7, q8, q9, q10, q11, q12⟩ := hz.2 L r tk' c' ms hy
      refine ⟨fun e' h => (by cases h), fun P' tk2 c2 h => ?_⟩
      cases h
      exact ⟨nd', PV_fn hV q1 q3 q4 q5 q6 q9 q10 q11, q2, q7, fW_trans hw2 (fP_W q12)⟩
