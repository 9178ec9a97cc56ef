/-! THE CLASS: S that begin with a NAME -/
def spS (σ : zSt) (q s : Nat) (b c d : Int32) : zSt := zsA (zsA (zsA σ (6 * q - 19) s b) (6 * q - 18) s c) (6 * q - 17) s d
theorem setPC {ln : Nat → Nat} {N M q cc s m : Nat} {b c d : Int32} {σ : zSt} (hL : LN ln q cc) (h : zI σ (q + 2) 6 = nI s) (hm : m < s) (hs : s ≤ ln 15) : fX9_setParts ln N M (q + 2) (nI m) b c d σ = some ((), spS σ q m b c d) := by
  have hq := hL.1
  have h15 := hL.2.1
  unfold fX9_setParts spS
  rw [show 6 * (q + 2) - 31 = 6 * q - 19 by omega, show 6 * (q + 2) - 30 = 6 * q - 18 by omega, show 6 * (q + 2) - 29 = 6 * q - 17 by omega, LN_t hL (a := 6 * q - 19) (by omega) (by omega), LN_t hL (a := 6 * q - 18) (by omega) (by omega), LN_t hL (a := 6 * q - 17) (by omega) (by omega), h, if_neg (nI_pos (by omega)), if_neg (fun z => by rw [nI_le' (by omega) (by omega)] at z; omega), nI_clamp (by omega), if_neg (ixN (by omega) (by omega)), bnd_e, if_neg (ixN (by omega) (by omega)), bnd_e, if_neg (ixN (by omega) (by omega)), bnd_e]
theorem setPD {ln : Nat → Nat} {N M q cc b : Nat} {e a v w y : Int32} {σ : zSt} (hL : LN ln q cc) (h : DS ln q e b σ) : wp (fX9_setParts ln N M (q + 2) a v w y σ) (fun _ z => DD ln q e b σ z) := by
  have hq := hL.1
  have h15 := hL.2.1
  obtain ⟨s, h7, h8⟩ := h.2.2.2.2.2.1
  unfold fX9_setParts
  rw [show 6 * (q + 2) - 31 = 6 * q - 19 by omega, show 6 * (q + 2) - 30 = 6 * q - 18 by omega, show 6 * (q + 2) - 29 = 6 * q - 17 by omega, LN_t hL (a := 6 * q - 19) (by omega) (by omega), LN_t hL (a := 6 * q - 18) (by omega) (by omega), LN_t hL (a := 6 * q - 17) (by omega) (by omega), h8]
  by_cases c1 : a < 0
  · rw [if_pos c1]; exact wp_s ⟨h, fR_refl⟩
  · rw [if_neg c1]
    by_cases c2 : nI s ≤ a
    · rw [if_pos c2]; exact wp_s ⟨h, fR_refl⟩
    · have c3 := ix_in c1 c2 (by omega)
      have i1 : ¬ (a < 0 ∨ ln 15 ≤ a.toNatClampNeg) := by rintro (c | c); exact c1 c; omega
      rw [if_neg c2, if_neg i1, bnd_e, if_neg i1, bnd_e, if_neg i1, bnd_e]
      exact wp_s ⟨DS_A (DS_A (DS_A h)), fR_A (fR_A (fR_A fR_refl (okA_t (by omega))) (okA_t (by omega))) (okA_t (by omega))⟩
theorem nx_sp {q s m : Nat} {b c d : Int32} {σ : zSt} (hq : q = 9 ∨ q = 10) (h : nxP q s σ) : nxP q s (spS σ q m b c d) := by
  intro j hj
  unfold spS
  rw [zA_A, if_neg (by omega), zA_A, if_neg (by omega), zA_A, if_neg (by omega)]
  exact h j hj
theorem spS_fX {q s p t m : Nat} {τ u : zSt} {b c d : Int32} (h : fX q s p t τ u) (hs : s ≤ m) (hq : q = 9 ∨ q = 10) : fX q s p t τ (spS u q m b c d) := by
  unfold spS
  exact fX_A (fX_A (fX_A h (by unfold eA; omega)) (by unfold eA; omega)) (by unfold eA; omega)
section
variable {ln : Nat → Nat} {N M q cc : Nat} {x : Nat → Int32} {n tc : Nat} {G : gE} {L : lE} {np : Nat} {fnd st : Nat → Int32} {mu : Int32} {tk : yTok} {c ns s p t D pl ms : Nat} {σ τ : zSt}
theorem sp_CV {m : Nat} {b d e : Int32} (hL : LN ln q cc) (h : CV ln q x n tc G L np fnd mu tk c ns s p t σ) : CV ln q x n tc G L np fnd mu tk c ns s p t (spS σ q m b d e) := CV_f hL.1 h (spS_fX fX_refl (Nat.zero_le _) hL.1) (fun k => rfl) (fun k => rfl) h.2.2.2.1 h.2.2.2.2.1 h.2.2.2.2.2.1 h.2.2.2.2.2.2.1 h.2.2.2.2.2.2.2.1 h.2.2.2.2.2.2.2.2
/-- a node whose parts are set behind it -/
theorem crp_sp {k s lo a b : Nat} {v w : Int} {A B C : fT} {x0 y0 X Y Z : Int32} (hq : q = 9 ∨ q = 10) (hs : s < 4096) (h1 : lo ≤ a) (h2 : a ≤ b) (h3 : b ≤ s) (hk : k = 28 ∨ k = 22) (hA : (crp τ q fnd np A).1 lo a X) (h28 : k = 28 → Y = Int32.ofInt w ∧ (crp τ q fnd np B).1 a b Z ∧ (crp τ q fnd np C).1 b s (-1)) (h22 : k = 22 → (crp τ q fnd np B).1 a b Y ∧ (crp τ q fnd np C).1 b s Z) : (crp (spS (taS τ q s (cKd k) (cVa fnd np k v) x0 y0) q s X Y Z) q fnd np (fN k v w A B C)).1 lo (s + 1) (nI s) := by
  have hrow : ∀ r m, m ≠ s → zA (spS (taS τ q s (cKd k) (cVa fnd np k v) x0 y0) q s X Y Z) r m = zA τ r m := by
    intro r m hm
    unfold spS taS
    rw [zA_A, if_neg (by omega), zA_A, if_neg (by omega), zA_A, if_neg (by omega), zA_I, zA_A, if_neg (by omega), zA_A, if_neg (by omega), zA_A, if_neg (by omega), zA_A, if_neg (by omega), zA_A, if_neg (by omega), zA_A, if_neg (by omega)]
  have r0 : zA (spS (taS τ q s (cKd k) (cVa fnd np k v) x0 y0) q s X Y Z) (6 * q - 21) s = cKd k := by
    unfold spS taS
    rw [zA_A, if_neg (by omega), zA_A, if_neg (by omega), zA_A, if_neg (by omega), zA_I, zA_A, if_neg (by omega), zA_A, if_neg (by omega), zA_A, if_neg (by omega), zA_A, if_neg (by omega), zA_A, if_neg (by omega), zA_A, if_pos ⟨rfl, rfl⟩]
  have r1 : zA (spS (taS τ q s (cKd k) (cVa fnd np k v) x0 y0) q s X Y Z) (6 * q - 20) s = cVa fnd np k v := by
    unfold spS taS
    rw [zA_A, if_neg (by omega), zA_A, if_neg (by omega), zA_A, if_neg (by omega), zA_I, zA_A, if_neg (by omega), zA_A, if_neg (by omega), zA_A, if_neg (by omega), zA_A, if_neg (by omega), zA_A, if_pos ⟨rfl, rfl⟩]
  have r2 : zA (spS (taS τ q s (cKd k) (cVa fnd np k v) x0 y0) q s X Y Z) (6 * q - 19) s = X := by
    unfold spS
    rw [zA_A, if_neg (by omega), zA_A, if_neg (by omega), zA_A, if_pos ⟨rfl, rfl⟩]
  have r3 : zA (spS (taS τ q s (cKd k) (cVa fnd np k v) x0 y0) q s X Y Z) (6 * q - 18) s = Y := by
    unfold spS
    rw [zA_A, if_neg (by omega), zA_A, if_pos ⟨rfl, rfl⟩]
  have r4 : zA (spS (taS τ q s (cKd k) (cVa fnd np k v) x0 y0) q s X Y Z) (6 * q - 17) s = Z := by
    unfold spS
    rw [zA_A, if_pos ⟨rfl, rfl⟩]
  have fr : ∀ (T : fT) (l h : Nat) (i : Int32), h ≤ s → (crp τ q fnd np T).1 l h i → (crp (spS (taS τ q s (cKd k) (cVa fnd np k v) x0 y0) q s X Y Z) q fnd np T).1 l h i := fun T l h i hh hc => (crp_frame (fnd' := fnd) hq T).1 _ _ _ (fun r m r1 r2 r3 r4 => hrow r m (by omega)) hc
  rw [crp_N]
  refine ⟨s, a, b, rfl, rfl, h1, h2, h3, hs, r0, r1, fun e => by omega, fun _ => ?_, fun e => by omega, fun e => ?_, fun e e2 => ?_, fun e => ?_⟩
  · rw [r2]; exact fr _ _ _ _ (by omega) hA
  · rw [r3, r4]
    obtain ⟨g1, g2, g3⟩ := h28 e
    exact ⟨g1, fr _ _ _ _ (by omega) g2, fr _ _ _ _ (Nat.le_refl _) g3⟩
  · rw [r3]
    exact fr _ _ _ _ (by omega) (h22 (by omega)).1
  · rw [r4]
    exact fr _ _ _ _ (Nat.le_refl _) (h22 (by omega)).2
end
section
variable {ln : Nat → Nat} {N M q cc : Nat} {x : Nat → Int32} {n tc : Nat} {G : gE} {L : lE} {np : Nat} {fnd st : Nat → Int32} {tk : yTok} {c ns s p D pl ms : Nat} {σ τ : zSt}
/-- NAME = E ; behind the NAME -/
def tlAs (ln : Nat → Nat) (N M : Nat) (x1_ : Int32) (r5 : Int32) (σ8 : zSt) : Option (Int32 × zSt) :=
  obd (fX4_placeOf ln N M x1_ σ8) (fun r9 σ10 =>
  obd (fX4_isSort ln N M x1_ (3 : Int32) σ10) (fun r11 σ12 =>
  if r11 = 0 then (
    rbd (zR σ12 2 6) 13 14 (fun q13 =>
    obd (fX0_addWith ln N M q13 (3 : Int32) r9 σ12) (fun _ σ15 =>
    rbd (zR σ15 2 5) 11 12 (fun q16 =>
    obd (fX9_add ln N M q16 (14 : Int32) r9 r5 (-1 : Int32) σ15) (fun r17 σ18 =>
    some (r17, σ18))))))
  else (
    rbd (zR σ12 2 6) 13 14 (fun q19 =>
    obd (fX0_addWith ln N M q19 (5 : Int32) r9 σ12) (fun _ σ21 =>
    rbd (zR σ21 2 5) 11 12 (fun q22 =>
    obd (fX1_inFrame ln N M r9 σ21) (fun r23 σ24 =>
    obd (fX9_add ln N M q22 (15 : Int32) r23 r5 (-1 : Int32) σ24) (fun r25 σ26 =>
    some (r25, σ26)))))))))
theorem TD_As {x1_ : Int32} (hL : LN ln q cc) : TD ln q (tlAs ln N M x1_) := by
  intro e b r z hb h
  unfold tlAs
  refine wp_mono (wpE (b1 := b + 2) (e := e) (nmD (v := 0) hL h).1 (fun r1 => wpE (nmD hL h).2.2.2.1 (fun r3 => ?_))) (fun _ y hy => DD_tr hy fR_refl (by omega))
  split
  · rw [rbC hL.1 h.2.2.2.1.2.2.2.2]
    refine wpD (addD2 hL (by omega) h) (fun _ u hu => ?_)
    rw [rbT hL.1 hu.2.2.2.1.2.2.2.1]
    exact wp_ret (treeD hL hu)
  · rw [rbC hL.1 h.2.2.2.1.2.2.2.2]
    refine wpD (addD2 hL (by omega) h) (fun _ u hu => ?_)
    rw [rbT hL.1 hu.2.2.2.1.2.2.2.1]
    exact wpE inFrA (fun r => wp_ret (treeD hL hu))
theorem asgC {k : Nat ⊕ Nat} {pla : Nat} {tk0 : yTok} {res : Except Int32 (fT × yTok × Nat × Nat)} (hL : LN ln q cc) (hn : n ≤ 512) (hN : 5000 ≤ N) (hM : 43 ≤ M) (hG : G.2.2.2.2 + L.2.2 ≤ tk.2.1) (hgs : gSr G) (hst : ∀ g, g < G.2.2.2.2 → G.2.1 g = 2 → G.2.2.1 g = st g) (h : CV ln q x n tc G L np fnd (-1) tk c ns s p 0 σ) (h8 : zI σ 2 8 = nI pl) (h9 : zI σ 2 9 = nI ms) (hB : CB n tc tk c ns s p (D + 1)) (hP : p ≤ 4 + 20 * (s + D)) (hms : ms ≤ tk.2.1) (hpla : pla ≤ 512) (hk : tk.2.2.1 = 57) (hq : inQ G L k) (hF : fX q s p 0 τ σ) (hpl0 : tk0.2.1 ≤ tk.2.1)
    (hres : res = if kdOf G k = 0 then xb (cm x n tk) (fun t2 => xb (yE x n tc G L 42 ns 56 t2 c) (fun u => xb (cm x n u.2.1) (fun t4 => .ok (asN G L k u.1, t4, u.2.2, ms)))) else er 5 pla) (h0 : res ≠ .error 0) :
    wp (fX6_assignment ln N M (nI (ixC G k)) (nI pla) σ) (SQ ln q x n tc G np fnd st L tk0 ns s p D pl (SBc ns) τ res) := by
  have hqq := hL.1
  have hnl := h.1.1.2.1
  have hp1 := hB.1.1
  have hp2 := hB.1.2.1
  have hb4 := hB.2.2.2.1
  have hlt := tk_ne hB.1 hk (by decide)
  have hSB := (SB_ge (ns := ns)).1
  have hcc : ln (q + 36) ≤ 4096 := by have := hL.2.2.2.2.2.2.2.2.2.2.2; omega
  have hT := TD_As (N := N) (M := M) (x1_ := nI (ixC G k)) hL
  obtain ⟨-, -, -, -, n5⟩ := nmL (N := N) (M := M) (v := 0) hL (by omega) h.1.2.2.1 hq
  obtain ⟨v1, -, -, -⟩ := srt_v hgs h.1.2.2.1 hq
  have hb20 : ∀ z, fX6_assignment_b20 ln N M (nI (ixC G k)) z = obd (fX7_come ln N M z) (fun _ σ4 => obd (fX2_expression ln N M M (56 : Int32) σ4) (fun r5 σ6 => obd (fX7_come ln N M σ6) (fun _ σ8 => tlAs ln N M (nI (ixC G k)) r5 σ8))) := fun z => rfl
  have dead : ∀ e z, res = .error e → e ≠ 0 → DS ln q e 11000 z → fR q τ z → wp (obd (fX2_expression ln N M M (56 : Int32) z) (fun r5 σ6 => obd (fX7_come ln N M σ6) (fun _ σ8 => tlAs ln N M (nI (ixC G k)) r5 σ8))) (SQ ln q x n tc G np fnd st L tk0 ns s p D pl (SBc ns) τ res) := fun e z hr he hd hf => wp_mono (esD hL hN (by omega) (by omega) hT hd) (fun r y hy => SQ_e hr he hy.1 (fR_trans hf hy.2) (by omega))
  unfold fX6_assignment
  rw [n5, obd_s]
  by_cases hv : kdOf G k = 0
  · rw [if_pos (v1.mpr hv), if_neg (by decide), hb20]
    rw [if_pos hv] at hres
    refine stCome (D := D + 1) hL hn hN (by omega) (by omega) h hB ?_ ?_
    · intro t2 hcm hV2 hF2 hB2 hpl2
      rw [hcm, xb_k] at hres
      have hF02 := fX_trans hF hF2 (Nat.le_refl _) (Nat.le_refl _) (Nat.le_refl _)
      have h82 : zI (cS x n tk.1 σ) 2 8 = nI pl := (hF2.1 2 8 (by unfold eI; omega)).trans h8
      have h92 : zI (cS x n tk.1 σ) 2 9 = nI ms := (hF2.1 2 9 (by unfold eI; omega)).trans h9
      revert hV2 hF02 h82 h92
      generalize cS x n tk.1 σ = s2
      intro hV2 hF02 h82 h92
      refine esC (Y := fun A t4 c' => .ok (asN G L k A, t4, c', ms)) (D := D + 1) hL hn hN hM (by omega) hgs hst hT hV2 hB2 (by omega) (fX_R hqq hF02) hres h0 ?_
      intro A t4 c' s3 r z hres4 hV4 hF4 hc4 hnd4 hcd4 hB4 hpl4
      have hq3 := hB4.1.1
      have hq4 := hB4.1.2.1
      have hq5 := hB4.2.2.2.2.1
      have hF04 := fX_trans hF02 hF4 (Nat.le_refl _) (Nat.le_refl _) (Nat.le_refl _)
      obtain ⟨m1, -, -, m4, -⟩ := nmL (N := N) (M := M) (v := 3) hL (by omega) hV4.1.2.2.1 hq
      obtain ⟨-, -, -, w4⟩ := srt_v hgs hV4.1.2.2.1 hq
      unfold tlAs
      rw [m1, obd_s, m4, obd_s]
      cases k with
      | inl j =>
        rw [if_pos (w4.mpr ⟨j, rfl⟩), if_neg (by decide), rbC hL.1 hV4.1.2.1.2.2.2.2, addC2 hcc hV4.2.2.2.2.2.2.1 (by have := hB4.2.2.2.2.2; omega), obd_s]
        obtain ⟨hV5, -⟩ := ck_CV (l := [5, plOf G L (.inl j)]) hL hV4
        rw [rbT hL.1 hV5.1.2.1.2.2.2.1, inFr_ok hV5.1.2.2.2.2, obd_s, treeC hL hV5.2.2.2.2.2.1 (by omega), obd_s]
        exact S_fin (k := 27) (v := (L.2.1 j).toInt) (w := 0) (l := [5, L.2.1 j]) hL hn hV4 ((hF4.1 2 8 (by unfold eI; omega)).trans h82) ((hF4.1 2 9 (by unfold eI; omega)).trans h92) (fX_T hF04) hc4 hcd4 hB4 hP (by omega) (by rw [gl_N]; rfl) (by rw [gn_N]; show _ ++ [5, Int32.ofInt (L.2.1 j).toInt] = _; rw [Int32.ofInt_toInt]) (by show 2 ≤ 3; omega) (by omega) (by omega) hres4
      | inr g =>
        rw [if_neg (show ¬ zA z 17 (ixC G (Sum.inr g)) = 3 from fun w => by obtain ⟨j, hj⟩ := w4.mp w; cases hj), if_pos rfl, rbC hL.1 hV4.1.2.1.2.2.2.2, addC2 hcc hV4.2.2.2.2.2.2.1 (by have := hB4.2.2.2.2.2; omega), obd_s]
        obtain ⟨hV5, -⟩ := ck_CV (l := [3, plOf G L (.inr g)]) hL hV4
        rw [rbT hL.1 hV5.1.2.1.2.2.2.1, treeC hL hV5.2.2.2.2.2.1 (by omega), obd_s]
        have key := S_fin (k := 26) (b := SBc ns) (v := (G.2.2.1 g).toInt) (w := 0) (l := [3, G.2.2.1 g]) (tk := tk0) (D := D) (τ := τ) (res := res) hL hn hV4 ((hF4.1 2 8 (by unfold eI; omega)).trans h82) ((hF4.1 2 9 (by unfold eI; omega)).trans h92) (fX_T hF04) hc4 hcd4 hB4 hP (by omega) (by rw [gl_N]; rfl) (by rw [gn_N]; show _ ++ [3, Int32.ofInt (G.2.2.1 g).toInt] = _; rw [Int32.ofInt_toInt]) (by show 2 ≤ 3; omega) (by omega) (by omega) hres4
        rw [show cVa fnd np 26 (G.2.2.1 g).toInt = G.2.2.1 g from Int32.ofInt_toInt _] at key
        exact key
    · intro e z hcm he0 hE
      rw [hcm, xb_e] at hres
      exact dead e z hres he0 hE.1 (fR_trans (fX_R hqq hF) hE.2)
  · rw [if_neg (fun z => hv (v1.mp z)), if_pos rfl]
    rw [if_neg hv] at hres
    have he0 : (5 : Int32) + 16 * nI pla ≠ 0 := er_ne erK5 (by omega)
    rw [failC _ _ h.2.2.1, obd_s, hb20]
    have hE := CV_ER (k := 0) hL hn (show G.2.2.2.2 + L.2.2 ≤ n by omega) (by omega) h hB he0
    rw [comeD hE.1, obd_s]
    exact dead _ _ hres he0 hE.1 (fR_trans (fX_R hqq hF) hE.2)
end
