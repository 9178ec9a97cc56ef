/-! THE CLASS: a LOCAL -/
section
variable (ln : Nat → Nat) (q : Nat) (x : Nat → Int32) (n tc : Nat) (G : gE) (np : Nat) (fnd st : Nat → Int32)
def LQc (L : lE) (tk : yTok) (ns s p D pl ms b : Nat) (τ : zSt) (res : Except Int32 (fT × Int64 × yTok × Nat)) (r : Int32) (z : zSt) : Prop :=
  (∀ e, res = .error e → e ≠ 0 ∧ DS ln q e b z ∧ fR q τ z) ∧
  (∀ A w t5 c', res = .ok (A, w, t5, c') → ∃ s', SVc ln q x n tc G np fnd (lAdd L w (nI pl)) t5 c' ns s' (p + (gl (fN 21 pl 0 A fZ fZ)).2) (pl + 1) (max ms (pl + 1)) z ∧ fSt q s p (G.2.2.2.2 + L.2.2) τ z ∧ (crp z q fnd np (fN 21 pl 0 A fZ fZ)).1 s s' r ∧ cdC ln q z p ((gn st (nI np) (fN 21 pl 0 A fZ fZ)).2 p) ∧ CB n tc t5 c' ns s' (p + (gl (fN 21 pl 0 A fZ fZ)).2) D ∧ tk.2.1 < t5.2.1 ∧ nxP q s' z)
end
section
variable {ln : Nat → Nat} {N M q cc : Nat} {x : Nat → Int32} {n tc : Nat} {G : gE} {L : lE} {np : Nat} {fnd st : Nat → Int32} {mu : Int32} {tk : yTok} {c ns s p t D pl ms : Nat} {σ τ : zSt}
theorem LQc_e {e : Int32} {z : zSt} {r : Int32} {b b1 : Nat} {res : Except Int32 (fT × Int64 × yTok × Nat)} (hr : res = .error e) (he : e ≠ 0) (h : DS ln q e b z) (hf : fR q τ z) (hb : b ≤ b1) : LQc ln q x n tc G np fnd st L tk ns s p D pl ms b1 τ res r z := by
  refine ⟨fun e' h' => ?_, fun A w t5 c' h' => by rw [hr] at h'; cases h'⟩
  rw [hr] at h'
  cases h'
  exact ⟨he, DS_le h hb, hf⟩
theorem CV_2 {k : Nat} {v : Int32} (hL : LN ln q cc) (h : CV ln q x n tc G L np fnd mu tk c ns s p t σ) : CV ln q x n tc G L np fnd mu tk c ns s p t (zsI σ 2 k v) := by
  have hq := hL.1
  have e : ∀ o j, o ≠ 2 → zI (zsI σ 2 k v) o j = zI σ o j := fun o j ho => by rw [zI_I, if_neg (by omega)]
  obtain ⟨⟨⟨s1', s2', s3', s4'⟩, hR, hN, c1, c2⟩, ⟨k1, k2, k3, k4, k5⟩, g3, g4, g5, g6, g7, g8, g9⟩ := h
  exact ⟨⟨⟨(e _ _ (by omega)).trans s1', s2', s3', s4'⟩, hR, ⟨(e _ _ (by omega)).trans hN.1, hN.2⟩, (e _ _ (by omega)).trans c1, (e _ _ (by omega)).trans c2⟩, ⟨(e _ _ (by omega)).trans k1, (e _ _ (by omega)).trans k2, (e _ _ (by omega)).trans k3, k4, k5⟩, (e _ _ (by omega)).trans g3, (e _ _ (by omega)).trans g4, (e _ _ (by omega)).trans g5, (e _ _ (by omega)).trans g6, (e _ _ (by omega)).trans g7, (e _ _ (by omega)).trans g8, (e _ _ (by omega)).trans g9⟩
theorem b65D {e x4 : Int32} {w : Int64} {b : Nat} (hL : LN ln q cc) (hb : b < 2 ^ 28) (h : DS ln q e b σ) : wp (fX6_local_b65 ln N M w x4 σ) (fun _ z => DD ln q e (b + 2) σ z) := by
  have hq := hL.1
  unfold fX6_local_b65
  rw [bnd_e, rbC hL.1 h.2.2.2.1.2.2.2.2]
  refine wpD (addD2 hL (by omega) h) (fun _ u hu => wpD (nAddD hL hu) (fun _ v hv => ?_))
  rw [bnd_e, bnd_e]
  have h1 : DD ln q e (b + 2) v (zsI v 2 8 (zI v 2 8 + 1)) := ⟨DS_I hL.1 hv (by unfold dI; omega), fR_I fR_refl (by unfold okI; omega)⟩
  revert h1
  generalize zsI v 2 8 (zI v 2 8 + 1) = v1
  intro h1
  have h2 : ∀ y, DD ln q e (b + 2) v (zsI v1 2 9 y) := fun y => ⟨DS_I hL.1 h1.1 (by unfold dI; omega), fR_I h1.2 (by unfold okI; omega)⟩
  have h2 := h2 (if (zI v1 2 9) < (zI v1 2 8) then (zI v1 2 8) else (zI v1 2 9))
  revert h2
  generalize zsI v1 2 9 (if (zI v1 2 9) < (zI v1 2 8) then (zI v1 2 8) else (zI v1 2 9)) = v2
  intro h2
  rw [passD h2.1, obd_s, rbT hL.1 h2.1.2.2.2.1.2.2.2.1]
  refine wp_mono (wpE inFrA (fun r => wp_ret (treeD hL h2.1))) (fun _ y hy => DD_tr hy h2.2 (Nat.le_refl _))
theorem b65C {A : fT} {w : Int64} {tk0 : yTok} {r : Int32} {s2 lA : Nat} {res : Except Int32 (fT × Int64 × yTok × Nat)} (hL : LN ln q cc) (hn : n ≤ 512) (hN : 5000 ≤ N) (hG : G.2.2.2.2 + L.2.2 ≤ tk0.2.1) (hlA : lA = if (gl A).1 = true then (gl A).2 else 2) (h : SVc ln q x n tc G np fnd L tk c ns s2 (p + lA) pl ms σ) (hB : CB n tc tk c ns s2 (p + lA) (D + 1)) (hP : p ≤ 4 + 20 * (s + D)) (hpm : pl ≤ tk0.2.1) (hms : ms ≤ tk0.2.1) (hlt : tk0.2.1 < tk.2.1) (hF : fSt q s p (G.2.2.2.2 + L.2.2) τ σ) (hc : (crp σ q fnd np A).1 s s2 r) (hcd : cdC ln q σ p (if (gn st (nI np) A).1 = true then (gn st (nI np) A).2 p else [1, 0]))
    (hres : res = xb (need 56 tk) (fun _ => xb (cm x n tk) (fun t5 => .ok (A, w, t5, c)))) :
    wp (fX6_local_b65 ln N M w r σ) (LQc ln q x n tc G np fnd st L tk0 ns s p D pl ms (SBc ns) τ res) := by
  obtain ⟨hV, h8, h9⟩ := h
  have hq := hL.1
  have h15 := hL.2.1
  have hB0 := hB
  obtain ⟨b1, b2, b3, b4, b5, b6⟩ := hB
  have hp1 := b1.1
  have hp2 := b1.2.1
  have hnl := hV.1.1.2.1
  have hSB := (SB_ge (ns := ns)).1
  have hcc : ln (q + 36) ≤ 4096 := by have := hL.2.2.2.2.2.2.2.2.2.2.2; omega
  have hcnt := (crp_cnt A).1 _ _ _ hc
  have hgA := gl_le A
  have hll : (if (gn st (nI np) A).1 = true then (gn st (nI np) A).2 p else [1, 0]).length = lA := by
    rw [hlA, (gn_len st (nI np) A).1]
    split
    · exact (gn_len st (nI np) A).2 p
    · rfl
  have hlA2 : lA ≤ 14 * cN A + 2 := by rw [hlA]; split <;> omega
  unfold fX6_local_b65
  rw [bnd_e, h8, rbC hL.1 hV.1.2.1.2.2.2.2, addC2 hcc hV.2.2.2.2.2.2.1 (by omega), obd_s]
  obtain ⟨hV1, hF1⟩ := ck_CV (l := [5, nI pl]) hL hV
  have hcd1 := ckS_cd (ln := ln) (q := q) (p := p + lA) (σ := σ) (l := [5, nI pl])
  have hcA1 := crp_fX hq hF1 (Nat.le_refl _) hc
  have hdA1 := cdC_fX hq hF1 (by omega) hcd
  have hF01 := fSt_trans hF (fX_T (nn := G.2.2.2.2 + L.2.2) hF1) (by omega) (by omega) (Nat.le_refl _)
  have h81 : zI (ckS ln q σ (p + lA) [5, nI pl]) 2 8 = nI pl := (hF1.1 2 8 (by unfold eI; omega)).trans h8
  have h91 : zI (ckS ln q σ (p + lA) [5, nI pl]) 2 9 = nI ms := (hF1.1 2 9 (by unfold eI; omega)).trans h9
  revert hV1 hcd1 hcA1 hdA1 hF01 h81 h91
  generalize ckS ln q σ (p + lA) [5, nI pl] = u1
  intro hV1 hcd1 hcA1 hdA1 hF01 h81 h91
  rw [nAddC hL (by omega) hV1.1.2.2.1.1, obd_s]
  have hV2 := na_CV (w := w) (b := nI pl) (d := 0) hL hV1
  have hF2 := naS_f (q := q) (σ := u1) (k := G.2.2.2.2 + L.2.2) (w := w) (a := 3) (b := nI pl) (d := 0) s2 (p + lA + 2)
  have hcA2 := crp_fSt hq hF2 (Nat.le_refl _) hcA1
  have hdA2 := cdC_fSt hq hF2 (by omega) hdA1
  have hcd2 := cdC_fSt hq hF2 (Nat.le_refl _) hcd1
  have hF02 := fSt_trans hF01 hF2 (by omega) (by omega) (Nat.le_refl _)
  have h82 : zI (naS u1 (G.2.2.2.2 + L.2.2) w 3 (nI pl) 0) 2 8 = nI pl := (naS_I (by omega)).trans h81
  have h92 : zI (naS u1 (G.2.2.2.2 + L.2.2) w 3 (nI pl) 0) 2 9 = nI ms := (naS_I (by omega)).trans h91
  revert hV2 hcA2 hdA2 hcd2 hF02 h82 h92
  generalize naS u1 (G.2.2.2.2 + L.2.2) w 3 (nI pl) 0 = u2
  intro hV2 hcA2 hdA2 hcd2 hF02 h82 h92
  rw [bnd_e, h82, nI_1, bnd_e, show zI (zsI u2 2 8 (nI (pl + 1))) 2 9 = nI ms by rw [zI_I, if_neg (by omega)]; exact h92, show zI (zsI u2 2 8 (nI (pl + 1))) 2 8 = nI (pl + 1) by rw [zI_I, if_pos ⟨rfl, rfl⟩], show (if nI ms < nI (pl + 1) then nI (pl + 1) else nI ms) = nI (max ms (pl + 1)) by
    by_cases e : ms < pl + 1
    · rw [if_pos ((nI_ltI (by omega) (by omega)).mpr e), Nat.max_eq_right (by omega)]
    · rw [if_neg (fun q => e ((nI_ltI (by omega) (by omega)).mp q)), Nat.max_eq_left (by omega)]]
  have hV3 := CV_2 (k := 9) (v := nI (max ms (pl + 1))) hL (CV_2 (k := 8) (v := nI (pl + 1)) hL hV2)
  have hF3 : fSt q s2 (p + lA + 2) (G.2.2.2.2 + L.2.2) u2 (zsI (zsI u2 2 8 (nI (pl + 1))) 2 9 (nI (max ms (pl + 1)))) := fSt_I (fSt_I fSt_refl (by unfold sI; omega)) (by unfold sI; omega)
  have hcA3 := crp_fSt hq hF3 (Nat.le_refl _) hcA2
  have hdA3 := cdC_fSt hq hF3 (by omega) hdA2
  have hcd3 := cdC_fSt hq hF3 (Nat.le_refl _) hcd2
  have hF03 := fSt_trans hF02 hF3 (by omega) (by omega) (Nat.le_refl _)
  have h83 : zI (zsI (zsI u2 2 8 (nI (pl + 1))) 2 9 (nI (max ms (pl + 1)))) 2 8 = nI (pl + 1) := by rw [zI_I, if_neg (by omega), zI_I, if_pos ⟨rfl, rfl⟩]
  have h93 : zI (zsI (zsI u2 2 8 (nI (pl + 1))) 2 9 (nI (max ms (pl + 1)))) 2 9 = nI (max ms (pl + 1)) := by rw [zI_I, if_pos ⟨rfl, rfl⟩]
  revert hV3 hcA3 hdA3 hcd3 hF03 h83 h93
  generalize zsI (zsI u2 2 8 (nI (pl + 1))) 2 9 (nI (max ms (pl + 1))) = u3
  intro hV3 hcA3 hdA3 hcd3 hF03 h83 h93
  have hBp : CB n tc tk c ns s2 (p + lA + 2) (D + 1) := ⟨b1, b2, b3, b4, b5, by omega⟩
  have hGn : G.2.2.2.2 + (lAdd L w (nI pl)).2.2 ≤ n := by show G.2.2.2.2 + (L.2.2 + 1) ≤ n; omega
  have dead : ∀ e z, res = .error e → e ≠ 0 → DS ln q e 11000 z → fR q τ z → wp (rbd (zR z 2 5) 11 12 (fun q20 => obd (fX1_inFrame ln N M (nI pl) z) (fun r21 σ22 => obd (fX9_add ln N M q20 (15 : Int32) r21 r (-1 : Int32) σ22) (fun r23 σ24 => some (r23, σ24))))) (LQc ln q x n tc G np fnd st L tk0 ns s p D pl ms (SBc ns) τ res) := by
    intro e z hr he hd hf
    rw [rbT hL.1 hd.2.2.2.1.2.2.2.1]
    exact wp_mono (wpE inFrA (fun r => wp_ret (treeD hL hd))) (fun _ y hy => LQc_e hr he hy.1 (fR_trans hf hy.2) (by omega))
  unfold fX7_pass
  refine wp_obd ?_
  refine stNeed (D := D + 1) (k := 56) hL hn hGn (by omega) hV3 hBp ?_ ?_
  · intro y hnd
    rw [hnd, xb_k] at hres
    have hk := need_kk hnd
    have hlt2 := tk_ne b1 hk (by decide)
    refine stCome (D := D + 1) hL hn hN hGn (by omega) hV3 hBp ?_ ?_
    · intro t5 hcm hV4 hF4 hB4 hpl4
      rw [hcm, xb_k] at hres
      have hq1 := hB4.1.1
      have hq2 := hB4.1.2.1
      have hq3 := hB4.2.2.2.2.1
      have hcA4 := crp_fX hq hF4 (Nat.le_refl _) hcA3
      have hdA4 := cdC_fX hq hF4 (by omega) hdA3
      have hcd4 := cdC_fX hq hF4 (Nat.le_refl _) hcd3
      have hF04 := fSt_trans hF03 (fX_T (nn := G.2.2.2.2 + L.2.2) hF4) (by omega) (by omega) (Nat.le_refl _)
      have h84 : zI (cS x n tk.1 u3) 2 8 = nI (pl + 1) := (hF4.1 2 8 (by unfold eI; omega)).trans h83
      have h94 : zI (cS x n tk.1 u3) 2 9 = nI (max ms (pl + 1)) := (hF4.1 2 9 (by unfold eI; omega)).trans h93
      revert hV4 hcA4 hdA4 hcd4 hF04 h84 h94
      generalize cS x n tk.1 u3 = u4
      intro hV4 hcA4 hdA4 hcd4 hF04 h84 h94
      refine wp_s ?_
      rw [rbT hL.1 hV4.1.2.1.2.2.2.1, inFr_ok hV4.1.2.2.2.2, obd_s, treeC hL hV4.2.2.2.2.2.1 (by omega), obd_s, nI_toInt (by omega)]
      obtain ⟨hV5, hF5⟩ := ta_CV (k := 15) (a := inF np pl) (b := r) (d := -1) hL hV4
      have hgl : (gl (fN 21 pl 0 A fZ fZ)).2 = lA + 2 := by rw [gl_N, hlA]; rfl
      refine wp_s ⟨fun e h' => (by rw [hres] at h'; cases h'), fun A1 w1 t1 c1' h' => ?_⟩
      rw [hres] at h'
      cases h'
      refine ⟨s2 + 1, ⟨?_, ?_, ?_⟩, fSt_trans hF04 (fX_T (nn := G.2.2.2.2 + L.2.2) hF5) (by omega) (by omega) (Nat.le_refl _), crp_1 (k := 21) (v := pl) hq (by omega) (by omega) (by omega) hcA4, ?_, ?_, by omega, nx_ta⟩
      · rw [hgl, ← Nat.add_assoc]
        exact hV5
      · rw [taS_I (by omega)]; exact h84
      · rw [taS_I (by omega)]; exact h94
      · rw [gn_N]
        show cdC ln q _ p ((if (gn st (nI np) A).1 = true then (gn st (nI np) A).2 p else [1, 0]) ++ [5, Int32.ofInt pl])
        refine cdC_app (cdC_fX hq hF5 (by omega) hdA4) ?_
        rw [hll]
        exact cdC_fX hq hF5 (Nat.le_refl _) hcd4
      · rw [hgl]
        exact ⟨hB4.1, b2, b3, b4, by omega, by omega⟩
    · intro e z hcm he0 hE
      rw [hcm, xb_e] at hres
      exact wp_s (dead e z hres he0 hE.1 (fR_trans (fSt_R hq hF03) hE.2))
  · intro e z hnd he0 hE
    rw [hnd, xb_e] at hres
    rw [comeD hE.1, obd_s]
    exact wp_s (dead e z hres he0 hE.1 (fR_trans (fSt_R hq hF03) hE.2))
end
