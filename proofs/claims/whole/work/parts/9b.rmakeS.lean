/-! THE REFERENCE MAKES CODE: lists, calls, S -/
theorem cN_isZ {t : fT} (h : isZ t) : cN t = 0 := h _ _ _ _
theorem gl_isZ {t : fT} (h : isZ t) : gl t = (false, 0) := h _ _ _ _
theorem gn_isZ {st : Nat → Int32} {np : Int32} {t : fT} (h : isZ t) : gn st np t = (false, fun _ => []) := h _ _ _ _
theorem rep_isZ {τ : zSt} {t : fT} (h : isZ t) : rep τ t = fun lo hi i => lo = hi ∧ i = -1 := h _ _ _ _
theorem wf_isZ {G : gE} {gs np K : Nat} {t : fT} (h : isZ t) : wf G gs np K t = wfZ := h _ _ _ _
/-- a cell of a list: its head with task h, the rest with task kd again -/
theorem mkC {N : Nat} {G : gE} {st : Nat → Int32} {np : Int32} {t r : fT} {kd h : Int32} (hk : (kd = 1 ∧ h = 0) ∨ (kd = 3 ∧ h = 2)) (ht : MKp N G st np h t) (hr : isZ r ∨ (MKl N G st np kd r ∧ ∃ a q, r = fC a q)) : MKl N G st np kd (fC t r) := by
  intro lo hi i τ p b hrep hR h36 h37 hp hb
  rw [rep_C] at hrep
  obtain ⟨j, pp, rfl, hj, hlp, hph, rt, rr⟩ := hrep
  have hg : (gl (fC t r)).2 = (gl t).2 + (gl r).2 := by rw [gl_C]
  rw [cN_C] at hb
  have hlT := (gn_len st np t).2 p
  have hpop : ∀ m, fX12_makeS_b11 N (m + 1) τ = fX12_makeS_b83 N (fX12_makeS_b11 N m) kd (nI j) (zsI τ 0 63 (nI b)) := by
    intro m
    rw [mk_pop hR.2.2 (by omega), h36, h37]
    rcases hk with ⟨rfl, -⟩ | ⟨rfl, -⟩
    · rw [if_neg (by decide), if_neg (by decide), if_pos rfl]
    · rw [if_neg (by decide), if_neg (by decide), if_neg (by decide), if_pos rfl]
  have e63 : zI (zsI τ 0 63 (nI b)) 0 63 = nI b := by rw [zI_I, if_pos ⟨rfl, rfl⟩]
  have e21 : zA (zsI τ 0 63 (nI b)) 21 j = zA τ 21 j := zA_I ..
  have h103 : ∀ (k11 : zSt → Option (Unit × zSt)) (s : zSt), fX12_makeS_b103 N k11 kd (nI j) s = obd (fX12_task N h (nI j) s) (fun _ u => k11 u) := by
    intro k11 s
    unfold fX12_makeS_b103 fX12_makeS_b114 fX12_makeS_b147
    rcases hk with ⟨rfl, rfl⟩ | ⟨rfl, rfl⟩
    · rw [if_pos rfl]
    · rw [if_neg (by decide)]
  rcases hr with hz | ⟨hr, a, q, rfl⟩
  · rw [rep_isZ hz] at rr
    obtain ⟨rr1, rr2⟩ := rr
    have hbeg : ∀ m, fX12_makeS_b11 N (m + 1) τ = fX12_makeS_b11 N m (tsS (zsI τ 0 63 (nI b)) b h (nI j)) := by
      intro m
      rw [hpop]
      unfold fX12_makeS_b83
      rw [nI_clamp (by omega), if_neg (ixN hj (by omega)), e21, rr2, if_pos (by decide), h103, taskR e63 (by omega), obd_s]
    have hF : fM lo hi p b τ (tsS (zsI τ 0 63 (nI b)) b h (nI j)) := fM_ts (fM_63 fM_refl) (Nat.le_refl _)
    obtain ⟨u, k, g1, g2, g3, g4, g5⟩ := ht lo pp (nI j) _ p b (rep_fM hF rt) (RM_ts (RM_63 hR)) ts_36 ts_37 (by omega) (by omega)
    refine ⟨u, k + 1, fun m => ?_, by rw [cN_C]; omega, fM_trans hF g3 (Nat.le_refl _) hph (Nat.le_refl _) (Nat.le_refl _), ?_, ?_⟩
    · rw [show m + (k + 1) = (m + k) + 1 by omega, hbeg, g1]
    · rw [hg, gl_isZ hz]; exact g4
    · rw [gn_C, gn_isZ hz]
      show cd u p ((gn st np t).2 p ++ [])
      rw [List.append_nil]; exact g5
  · have rr0 := rr
    rw [rep_C] at rr0
    obtain ⟨j2, pp2, ej2, hj2, lp2, lq2, -⟩ := rr0
    have hcr := rep_cnt _ _ _ _ rr
    have hbeg : ∀ m, fX12_makeS_b11 N (m + 1) τ = fX12_makeS_b11 N m (tsS (tsS (zsI τ 0 63 (nI b)) b kd (zA τ 21 j)) (b + 1) h (nI j)) := by
      intro m
      rw [hpop]
      unfold fX12_makeS_b83
      rw [nI_clamp (by omega), if_neg (ixN hj (by omega)), e21, if_neg (by rw [ej2]; exact nI_pos (by omega)), if_neg (ixN hj (by omega)), taskR e63 (by omega), obd_s, h103, taskR ts_63 (by omega), obd_s]
    have hF : fM lo hi p b τ (tsS (tsS (zsI τ 0 63 (nI b)) b kd (zA τ 21 j)) (b + 1) h (nI j)) := fM_ts (fM_ts (fM_63 fM_refl) (Nat.le_refl _)) (by omega)
    have t36 : zA (tsS (tsS (zsI τ 0 63 (nI b)) b kd (zA τ 21 j)) (b + 1) h (nI j)) 36 b = kd := by rw [ts_A (by omega), ts_36]
    have t37 : zA (tsS (tsS (zsI τ 0 63 (nI b)) b kd (zA τ 21 j)) (b + 1) h (nI j)) 37 b = zA τ 21 j := by rw [ts_A (by omega), ts_37]
    obtain ⟨u, k, g1, g2, g3, g4, g5⟩ := ht lo pp (nI j) _ p (b + 1) (rep_fM hF rt) (RM_ts (RM_ts (RM_63 hR))) ts_36 ts_37 (by omega) (by omega)
    have hFu : fM lo hi p b τ u := fM_trans hF g3 (Nat.le_refl _) hph (Nat.le_refl _) (by omega)
    obtain ⟨x, k2, e1, e2, e3, e4, e5⟩ := hr pp hi (zA τ 21 j) u (p + (gl t).2) b (rep_fM hFu rr) g4 ((g3.2.2.2 36 b (Or.inl (by omega)) (Or.inr (by omega)) (Or.inl (by omega))).trans t36) ((g3.2.2.2 37 b (Or.inl (by omega)) (Or.inr (by omega)) (Or.inl (by omega))).trans t37) (by omega) (by omega)
    refine ⟨x, k2 + k + 1, fun m => ?_, by rw [cN_C (t := t)]; omega, fM_trans hFu e3 (by omega) (Nat.le_refl _) (by omega) (Nat.le_refl _), ?_, ?_⟩
    · rw [show m + (k2 + k + 1) = (m + k2 + k) + 1 by omega, hbeg, g1, e1]
    · rw [hg, ← Nat.add_assoc]; exact e4
    · rw [gn_C]
      show cd x p ((gn st np t).2 p ++ (gn st np (fC a q)).2 (p + ((gn st np t).2 p).length))
      rw [hlT]
      refine cd_app (cd_frame (fun q q1 q2 => e3.2.2.2 34 q (Or.inr (by omega)) (Or.inl (by omega)) (Or.inl (by omega))) g5) ?_
      rw [hlT]; exact e5
theorem doneCl {N m b j : Nat} {G : gE} {st : Nat → Int32} {np : Int32} {q g : Nat} {u : zSt} {w : Int32} (hR : RM G st np u q (b + 1)) (hq : q + 3 ≤ 29000) (hb : b < 5900) (h36 : zA u 36 b = 4) (h37 : zA u 37 b = nI j) (hj : j < 4200) (h15 : zA u 15 j = 9) (h19 : zA u 19 j = nI g) (hg : g < G.2.2.2.2) (hg2 : G.2.1 g = 2) (h20 : zA u 20 j = w) :
    fX12_makeS_b11 N (m + 1) u = fX12_makeS_b11 N m (wlS (zsI u 0 63 (nI b)) q [32, st g, w]) := by
  rw [popG hR hb h36 (by decide) h37 hj h15, if_pos (by decide)]
  unfold fX12_goesOnE
  rw [if_pos rfl]
  unfold fX12_doneE
  have hR2 := RM_63 (b := b) hR
  have hgl := hR.1.2.1
  have h19' : zA (zsI u 0 63 (nI b)) 19 j = nI g := h19
  rw [nI_clamp (by omega), if_neg (ixN hj (by omega)), zA_I, bnd_e, h15, if_neg (by decide), if_pos rfl, putsR hR2 (by omega), obd_s, if_neg (ixN hj (by omega)), pt_A (by omega), h19', nI_clamp (by omega), if_neg (ixN (show g < 1400 by omega) (by omega)), (RM_pt (v := 32) hR2).1.2.2 g hg hg2, putsR (RM_pt hR2) (by omega), obd_s, if_neg (ixN hj (by omega)), pt_A (by omega), pt_A (by omega), zA_I, h20, putsR (RM_pt (RM_pt hR2)) (by omega), obd_s, obd_s, obd_s]
  rfl
theorem begCl {N m b j : Nat} {G : gE} {st : Nat → Int32} {np : Int32} {p : Nat} {τ : zSt} (hR : RM G st np τ p (b + 1)) (hb : b < 5900) (h36 : zA τ 36 b = 2) (h37 : zA τ 37 b = nI j) (hj : j < 4200) (h15 : zA τ 15 j = 9) :
    fX12_makeS_b11 N (m + 1) τ = fX12_makeS_b11 N m (if zA τ 16 j < 0 then tsS (zsI τ 0 63 (nI b)) b 4 (nI j) else tsS (tsS (zsI τ 0 63 (nI b)) b 4 (nI j)) (b + 1) 3 (zA τ 16 j)) := by
  rw [mk_pop hR.2.2 (by omega), h36, if_neg (by decide), if_pos rfl, h37]
  unfold fX12_beginsE
  have e63 : zI (zsI τ 0 63 (nI b)) 0 63 = nI b := by rw [zI_I, if_pos ⟨rfl, rfl⟩]
  rw [nI_clamp (by omega), if_neg (ixN hj (by omega)), zA_I, bnd_e, h15, if_neg (by decide), if_neg (by decide), if_neg (by decide), if_neg (by decide), if_neg (by decide), if_neg (by decide), if_neg (by decide), if_neg (by decide), if_pos rfl, taskR e63 (by omega), obd_s, if_neg (ixN hj (by omega)), ts_A (by omega), zA_I]
  by_cases h : zA τ 16 j < 0
  · rw [if_pos h, if_pos h, obd_s]
  · rw [if_neg h, if_neg h, if_neg (ixN hj (by omega)), taskR ts_63 (by omega), obd_s, obd_s]
theorem mkCall {N : Nat} {G : gE} {st : Nat → Int32} {np : Int32} {v w : Int} {A B C : fT} (hA : isZ A ∨ (MKl N G st np 3 A ∧ ∃ a q, A = fC a q)) (hv : 0 ≤ v) (hg : v.toNat < G.2.2.2.2) (hg2 : G.2.1 v.toNat = 2) (hG : G.2.2.2.2 ≤ 1400) : MKp N G st np 2 (fN 9 v w A B C) := by
  intro lo hi i τ p b hr hR h36 h37 hp hb
  rw [rep_N] at hr
  obtain ⟨j, rfl, hj, hlh, r15, r19, r20, ly⟩ := hr
  obtain ⟨e, p1, q1, b1, b2, b3, ra, rb, rc⟩ := ly.1 (by omega)
  have e19 : Int32.ofInt v = nI v.toNat := by
    have h := ofI v.toNat
    rw [Int.toNat_of_nonneg hv] at h
    exact h
  rw [e19] at r19
  have hgg : (gl (fN 9 v w A B C)).2 = (gl A).2 + [32, st v.toNat, Int32.ofInt w].length := by rw [gl_N]; rfl
  have hcn : cN (fN 9 v w A B C) = 1 + cN A + cN B + cN C := cN_N
  have hbeg := fun m => begCl (N := N) (m := m) hR (by omega) h36 h37 hj r15
  rcases hA with hz | ⟨hA, a, q, rfl⟩
  · rw [rep_isZ hz] at ra
    simp only [ra.2, show (-1 : Int32) < 0 from by decide, if_true] at hbeg
    have hF : fM lo hi p b τ (tsS (zsI τ 0 63 (nI b)) b 4 (nI j)) := fM_ts (fM_63 fM_refl) (Nat.le_refl _)
    have hRs : RM G st np (tsS (zsI τ 0 63 (nI b)) b 4 (nI j)) p (b + 1) := RM_ts (RM_63 hR)
    have s36 : zA (tsS (zsI τ 0 63 (nI b)) b 4 (nI j)) 36 b = 4 := ts_36
    have s37 : zA (tsS (zsI τ 0 63 (nI b)) b 4 (nI j)) 37 b = nI j := ts_37
    revert hF hRs s36 s37 hbeg
    generalize tsS (zsI τ 0 63 (nI b)) b 4 (nI j) = s
    intro hbeg hF hRs s36 s37
    rw [gl_isZ hz] at hgg
    have hd := fun m => doneCl (N := N) (m := m) hRs (by rw [hgg] at hp; simp only [List.length_cons, List.length_nil] at hp; omega) (by omega) s36 s37 hj ((fM_n hF (by omega) j).trans r15) ((fM_n hF (by omega) j).trans r19) hg hg2 ((fM_n hF (by omega) j).trans r20)
    refine ⟨wlS (zsI s 0 63 (nI b)) p [32, st v.toNat, Int32.ofInt w], 2, fun m => ?_, by omega, fM_pl _ p _ (fM_63 hF) (Nat.le_refl _), ?_, ?_⟩
    · rw [show m + 2 = m + 1 + 1 from rfl, hbeg, hd]
    · rw [hgg, Nat.zero_add]; exact RM_pl _ _ _ (RM_63 hRs)
    · rw [gn_N]
      show cd _ p ((gn st np A).2 p ++ [32, st v.toNat, Int32.ofInt w])
      rw [gn_isZ hz]
      exact cd_pl _ _ _
  · have ra0 := ra
    rw [rep_C] at ra0
    obtain ⟨j2, -, ej2, hj2, -⟩ := ra0
    simp only [ej2, if_neg (nI_pos (show j2 < 2 ^ 31 by omega))] at hbeg
    rw [← ej2] at hbeg
    refine mk_one (l := [32, st v.toNat, Int32.ofInt w]) (lo' := j + 1) (hi' := p1) ?_ hgg (by omega) hA hR ra (by omega) (by omega) hp hb hbeg ?_
    · rw [gn_N]; rfl
    · intro u q hf hRu hq u36 u37 m
      exact doneCl hRu hq (by omega) u36 u37 hj ((fM_n hf (by omega) j).trans r15) ((fM_n hf (by omega) j).trans r19) hg hg2 ((fM_n hf (by omega) j).trans r20)
