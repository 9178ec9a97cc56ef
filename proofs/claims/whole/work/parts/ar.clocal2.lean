/-! THE CLASS: a LOCAL, whole -/
theorem xb_dup {dup : Bool} {a : Except Int32 Unit} {k : Nat} {m : Except Int32 yTok} {β : Type} {F : yTok → Except Int32 β} : xb a (fun _ => if dup = true then er 4 k else xb m F) = xb (xb a (fun _ => if dup = true then er 4 k else m)) F := by
  cases a with
  | error e => rfl
  | ok y =>
    cases dup with
    | true => rfl
    | false => rfl
def tlL (ln : Nat → Nat) (N M : Nat) (x3 : Int64) (σ5 : zSt) : Option (Int32 × zSt) :=
  bnd (-1 : Int32) (fun x6 =>
  if (zI σ5 1 3) = (57 : Int32) then (
    obd (fX7_come ln N M  σ5) (fun _ σ26 =>
    obd (fX2_expression ln N M M (56 : Int32) σ26) (fun r27 σ28 =>
    fX6_local_b65 ln N M  x3 r27 σ28)))
  else (
    rbd (zR σ5 2 6) 13 14 (fun q7 =>
    obd (fX0_addWith ln N M q7 (1 : Int32) (0 : Int32) σ5) (fun _ σ9 =>
    fX6_local_b65 ln N M  x3 x6 σ9))))
section
variable {ln : Nat → Nat} {N M q cc : Nat} {x : Nat → Int32} {n tc : Nat} {G : gE} {L : lE} {np : Nat} {fnd st : Nat → Int32} {mu : Int32} {tk : yTok} {c ns s p t D pl ms : Nat} {σ τ : zSt}
theorem tlLD {e : Int32} {w : Int64} {b : Nat} (hL : LN ln q cc) (hb : b < 2 ^ 27) (h : DS ln q e b σ) : wp (tlL ln N M w σ) (fun _ z => DD ln q e (b + 4) σ z) := by
  unfold tlL
  rw [bnd_e, h.2.2.1, if_neg (by decide), rbC hL.1 h.2.2.2.1.2.2.2.2]
  exact wpD (b := b + 2) (addD2 hL (by omega) h) (fun _ u hu => b65D hL (by omega) hu)
theorem localC {bf : Nat} (hL : LN ln q cc) (hn : n ≤ 512) (hN : 5000 ≤ N) (hM : 43 ≤ M) (hG : G.2.2.2.2 + L.2.2 ≤ tk.2.1) (hgs : gSr G) (hst : ∀ g, g < G.2.2.2.2 → G.2.1 g = 2 → G.2.2.1 g = st g) (hbf : bf ≤ L.2.2) (h : SVc ln q x n tc G np fnd L tk c ns s p pl ms σ) (hB : CB n tc tk c ns s p D) (hP : p ≤ 4 + 20 * (s + D)) (hpm : pl ≤ tk.2.1) (hms : ms ≤ tk.2.1) (hk : tk.2.2.1 = 42) (h0 : yLoc x n tc G bf ns L tk c ≠ .error 0) :
    wp (fX6_local ln N M (nI (G.2.2.2.2 + bf)) σ) (LQc ln q x n tc G np fnd st L tk ns s p D pl ms (SBc ns) σ (yLoc x n tc G bf ns L tk c)) := by
  obtain ⟨h, h8, h9⟩ := h
  have hq := hL.1
  have hB0 := hB
  obtain ⟨b1, b2, b3, b4, b5, b6⟩ := hB
  have hp1 := b1.1
  have hp2 := b1.2.1
  have hlt := tk_ne b1 hk (by decide)
  have hnl := h.1.1.2.1
  have hSB := (SB_ge (ns := ns)).1
  have hSE := SB_E (ns := ns) (by omega)
  have hcc : ln (q + 36) ≤ 4096 := by have := hL.2.2.2.2.2.2.2.2.2.2.2; omega
  generalize hres : yLoc x n tc G bf ns L tk c = res at h0 ⊢
  unfold yLoc at hres
  obtain ⟨M', rfl⟩ : ∃ g, M = g + 1 := ⟨M - 1, by omega⟩
  have hKD := expD (N := N) (M := M' + 1) (d := M') hL hN
  have dead : ∀ e z w, res = .error e → e ≠ 0 → DS ln q e 11000 z → fR q σ z → wp (tlL ln N (M' + 1) w z) (LQc ln q x n tc G np fnd st L tk ns s p D pl ms (SBc ns) σ res) := fun e z w hr he hd hf => wp_mono (tlLD hL (by omega) hd) (fun r y hy => LQc_e hr he hy.1 (fR_trans hf hy.2) (by omega))
  have dead2 : ∀ e b z w r, res = .error e → e ≠ 0 → DS ln q e b z → b < 2 ^ 28 → b + 2 ≤ SBc ns → fR q σ z → wp (fX6_local_b65 ln N (M' + 1) w r z) (LQc ln q x n tc G np fnd st L tk ns s p D pl ms (SBc ns) σ res) := fun e b z w r hr he hd hb hb2 hf => wp_mono (b65D hL hb hd) (fun r y hy => LQc_e hr he hy.1 (fR_trans hf hy.2) hb2)
  show wp (obd (fX7_come ln N (M' + 1) σ) (fun _ σ2 => bnd (zL σ2 1 5) (fun x3 => obd (fX6_toldName ln N (M' + 1) (nI (G.2.2.2.2 + bf)) σ2) (fun _ σ5 => tlL ln N (M' + 1) x3 σ5)))) _
  refine stCome (D := D) hL hn hN (by omega) (by omega) h hB0 ?_ ?_
  · intro t1 hcm hV1 hF1 hB1 hpl1
    rw [hcm, xb_k, xb_dup] at hres
    revert hV1 hF1
    generalize cS x n tk.1 σ = s1
    intro hV1 hF1
    have hq1 := hB1.1.1
    have hq2 := hB1.1.2.1
    rw [bnd_e]
    refine stTold (D := D + 1) (dup := dupL L bf t1.2.2.2) hL hn hN (by omega) (by omega) hV1 ⟨hB1.1, b2, b3, b4, by omega, b6⟩ (findF hL hN (by omega) hbf hV1.1.2.2.1) ?_ ?_
    · intro t2 hk40 hdup hcm2 hV2 hF2 hB2 hpl2
      rw [show need 40 t1 = .ok () by unfold need; rw [if_pos hk40], xb_k, hdup, if_neg (by decide), hcm2, xb_k] at hres
      rw [hV1.2.1.2.2.2.1 hk40]
      have hlt1 := tk_ne hB1.1 hk40 (by decide)
      have hF12 := fX_trans hF1 hF2 (Nat.le_refl _) (Nat.le_refl _) (Nat.le_refl _)
      revert hV2 hF12
      generalize cS x n t1.1 s1 = s2
      intro hV2 hF12
      have hq3 := hB2.1.1
      have hq4 := hB2.1.2.1
      have hq5 := hB2.2.2.2.2.1
      unfold tlL
      rw [bnd_e, hV2.2.1.2.2.1]
      by_cases k57 : t2.2.2.1 = 57
      · rw [if_pos k57] at hres ⊢
        have hlt2 := tk_ne hB2.1 k57 (by decide)
        refine stCome (D := D + 1) hL hn hN (by omega) (by omega) hV2 hB2 ?_ ?_
        · intro t3 hcm3 hV3 hF3 hB3 hpl3
          rw [hcm3, xb_k] at hres
          have hF13 := fX_trans hF12 hF3 (Nat.le_refl _) (Nat.le_refl _) (Nat.le_refl _)
          revert hV3 hF13
          generalize cS x n t2.1 s2 = s3
          intro hV3 hF13
          refine wp_obd (wp_mono (expC (N := N) (M := M' + 1) (st := st) hL hn hN (by omega) hgs hst 42 M' (by omega) ns 56 t3 c s p 0 (D + 1) s3 hV3 hB3 (by omega) (by omega) (Or.inr (Or.inr (Or.inr rfl))) (fun w => h0 (by rw [← hres, w]; rfl))) (fun r z hz => ?_))
          cases hr : yE x n tc G L 42 ns 56 t3 c with
          | error e =>
            obtain ⟨he0, hd, hf⟩ := hz.1 e hr
            rw [hr, xb_e] at hres
            exact dead2 e _ z _ r hres.symm he0 hd (by unfold EBc; omega) (by omega) (fR_trans (fX_R hq hF13) hf)
          | ok v =>
            obtain ⟨A, tk', c'⟩ := v
            rw [hr, xb_k] at hres
            obtain ⟨s4, hV4, hF4, hc4, hnd4, hcd4, hB4, hP4, hen4, hlt4⟩ := hz.2 A tk' c' hr
            have hF14 := fX_trans hF13 hF4 (Nat.le_refl _) (Nat.le_refl _) (Nat.le_refl _)
            have hAt : (gl A).1 = true ∧ (gn st (nI np) A).1 = true := by
              obtain ⟨a', b', c', d', e', f', rfl⟩ := hnd4
              exact ⟨by rw [gl_N]; rfl, by rw [gn_N]; rfl⟩
            have hq6 := hB4.1.1
            have hq7 := hB4.1.2.1
            refine b65C (lA := (gl A).2) (s2 := s4) hL hn hN hG (by rw [if_pos hAt.1]) ⟨hV4, (hF14.1 2 8 (by unfold eI; omega)).trans h8, (hF14.1 2 9 (by unfold eI; omega)).trans h9⟩ hB4 hP hpm hms (by omega) (fX_T hF14) hc4 (by rw [if_pos hAt.2]; exact hcd4) hres.symm
        · intro e z hcm3 he0 hE
          rw [hcm3, xb_e, xb_e] at hres
          refine wp_obd (wp_mono (hKD _ _ _ _ hE.1) (fun r u hu => ?_))
          exact dead2 e _ u _ r hres.symm he0 hu.1 (by omega) (by omega) (fR_trans (fX_R hq hF12) (fR_trans hE.2 hu.2))
      · rw [if_neg k57] at hres ⊢
        rw [xb_k] at hres
        rw [rbC hL.1 hV2.1.2.1.2.2.2.2, addC2 hcc hV2.2.2.2.2.2.2.1 (by omega), obd_s]
        obtain ⟨hV3, hF3⟩ := ck_CV (l := [1, 0]) hL hV2
        have hF13 := fX_trans hF12 hF3 (Nat.le_refl _) (Nat.le_refl _) (Nat.le_refl _)
        refine b65C (lA := 2) (s2 := s) (A := fZ) hL hn hN hG (by rw [gl_isZ isZ_Z]; rfl) ⟨hV3, (hF13.1 2 8 (by unfold eI; omega)).trans h8, (hF13.1 2 9 (by unfold eI; omega)).trans h9⟩ ⟨hB2.1, b2, b3, b4, hq5, by omega⟩ hP hpm hms (by omega) (fX_T hF13) crp_e (by rw [gn_isZ isZ_Z]; exact ckS_cd (l := [1, 0])) hres.symm
    · intro e z hto he0 hE
      rw [hto, xb_e] at hres
      exact dead e z _ hres.symm he0 hE.1 (fR_trans (fX_R hq hF1) hE.2)
  · intro e z hcm he0 hE
    rw [hcm, xb_e] at hres
    rw [bnd_e, toldD hE.1, obd_s]
    exact dead e z _ hres.symm he0 hE.1 hE.2
end
