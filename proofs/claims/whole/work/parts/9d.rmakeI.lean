/-! THE REFERENCE MAKES CODE: if and while -/
theorem begSI {N m b j k : Nat} {G : gE} {st : Nat → Int32} {np : Int32} {p : Nat} {τ : zSt} (hR : RM G st np τ p (b + 1)) (hb : b < 5900) (h36 : zA τ 36 b = 0) (h37 : zA τ 37 b = nI j) (hj : j < 4200) (h15 : zA τ 15 j = nI k) (hk : k = 22 ∨ k = 23) :
    fX12_makeS_b11 N (m + 1) τ = fX12_makeS_b11 N m (tsS (tsS (zsA (zsI τ 0 63 (nI b)) 38 j (nI p)) b 5 (nI j)) (b + 1) 2 (zA τ 16 j)) := by
  rw [mk_pop hR.2.2 (by omega), h36, if_pos rfl, h37]
  unfold fX12_begins2
  have e63 : zI (zsA (zsI τ 0 63 (nI b)) 38 j (nI p)) 0 63 = nI b := by rw [zI_A, zI_I, if_pos ⟨rfl, rfl⟩]
  have e61 : zI (zsI τ 0 63 (nI b)) 0 61 = nI p := by rw [zI_I, if_neg (by omega)]; exact hR.2.1
  rw [nI_clamp (by omega), if_neg (ixN hj (by omega)), zA_I, bnd_e, h15]
  rcases hk with rfl | rfl
  · rw [if_neg (by decide), if_neg (by decide), if_pos (show nI 22 = 22 from rfl), if_neg (ixN hj (by omega)), bnd_e, e61, taskR e63 (by omega), obd_s, if_neg (ixN hj (by omega)), ts_A (by omega), zA_A, if_neg (by omega), zA_I, taskR ts_63 (by omega), obd_s, obd_s]
  · rw [if_neg (by decide), if_neg (by decide), if_neg (by decide), if_pos (show nI 23 = 23 from rfl), if_neg (ixN hj (by omega)), bnd_e, e61, taskR e63 (by omega), obd_s, if_neg (ixN hj (by omega)), ts_A (by omega), zA_A, if_neg (by omega), zA_I, taskR ts_63 (by omega), obd_s, obd_s]
theorem halfS {N m b j q : Nat} {G : gE} {st : Nat → Int32} {np : Int32} {u : zSt} {k : Nat} {kk : Int32} (hR : RM G st np u q (b + 1)) (hq : q + 6 < 29900) (hb : b < 5900) (h36 : zA u 36 b = 5) (h37 : zA u 37 b = nI j) (hj : j < 4200) (h15 : zA u 15 j = nI k) (hk : (k = 23 ∧ kk = 7) ∨ (k = 22 ∧ zA u 18 j = -1 ∧ kk = 7) ∨ (k = 22 ∧ 0 ≤ zA u 18 j ∧ kk = 6)) :
    fX12_makeS_b11 N (m + 1) u = fX12_makeS_b11 N m (tsS (tsS (zsA (ptS (ptS (zsI u 0 63 (nI b)) q 31) (q + 1) 0) 39 j (nI (q + 1))) b kk (nI j)) (b + 1) 0 (zA u 17 j)) := by
  rw [popG hR hb h36 (by decide) h37 hj h15, if_neg (by rcases hk with ⟨rfl, -⟩ | ⟨rfl, -⟩ | ⟨rfl, -⟩ <;> decide)]
  unfold fX12_goesOnS
  have hR2 := RM_63 (b := b) hR
  rw [if_neg (by decide), if_pos rfl, jumpR hR2.2.1 (by omega), obd_s, nI_clamp (by omega), if_neg (ixN hj (by omega)), bnd_e, if_neg (ixN hj (by omega))]
  have hRs : RM G st np (zsA (ptS (ptS (zsI u 0 63 (nI b)) q 31) (q + 1) 0) 39 j (nI (q + 1))) (q + 2) b := RM_A (RM_pt (RM_pt hR2)) (by omega)
  have f15 : zA (zsA (ptS (ptS (zsI u 0 63 (nI b)) q 31) (q + 1) 0) 39 j (nI (q + 1))) 15 j = nI k := by (repeat (first | rw [pt_34] | rw [zA_A, if_pos ⟨rfl, rfl⟩] | rw [pt_A (by omega)] | rw [zA_A, if_neg (by omega)] | rw [ts_A (by omega)] | rw [zA_I])); exact h15
  have f17 : zA (zsA (ptS (ptS (zsI u 0 63 (nI b)) q 31) (q + 1) 0) 39 j (nI (q + 1))) 17 j = zA u 17 j := by (repeat (first | rw [pt_34] | rw [zA_A, if_pos ⟨rfl, rfl⟩] | rw [pt_A (by omega)] | rw [zA_A, if_neg (by omega)] | rw [ts_A (by omega)] | rw [zA_I]))
  have f18 : zA (zsA (ptS (ptS (zsI u 0 63 (nI b)) q 31) (q + 1) 0) 39 j (nI (q + 1))) 18 j = zA u 18 j := by (repeat (first | rw [pt_34] | rw [zA_A, if_pos ⟨rfl, rfl⟩] | rw [pt_A (by omega)] | rw [zA_A, if_neg (by omega)] | rw [ts_A (by omega)] | rw [zA_I]))
  revert hRs f15 f17 f18
  generalize zsA (ptS (ptS (zsI u 0 63 (nI b)) q 31) (q + 1) 0) 39 j (nI (q + 1)) = s
  intro hRs f15 f17 f18
  have h58 : obd (fX12_goesOnS_b58 N (nI j) kk s) (fun _ u => fX12_makeS_b11 N m u) = fX12_makeS_b11 N m (tsS (tsS s b kk (nI j)) (b + 1) 0 (zA u 17 j)) := by
    unfold fX12_goesOnS_b58
    rw [taskR hRs.2.2 (by omega), obd_s, nI_clamp (by omega), if_neg (ixN hj (by omega)), ts_A (by omega), f17, taskR ts_63 (by omega), obd_s, obd_s]
  rw [f15]
  rcases hk with ⟨rfl, rfl⟩ | ⟨rfl, h18, rfl⟩ | ⟨rfl, h18, rfl⟩
  · rw [if_pos (show nI 23 = 23 from rfl)]
    exact h58
  · rw [if_neg (by decide), if_neg (ixN hj (by omega)), f18, h18, if_neg (by decide)]
    exact h58
  · rw [if_neg (by decide), if_neg (ixN hj (by omega)), f18, if_pos h18]
    exact h58
theorem endSI {N m b j r f : Nat} {G : gE} {st : Nat → Int32} {np : Int32} {x : zSt} (hR : RM G st np x r (b + 1)) (hb : b < 5900) (h36 : zA x 36 b = 7) (h37 : zA x 37 b = nI j) (hj : j < 4200) (h15 : zA x 15 j = 22) (hf : f < 29900) (h39 : zA x 39 j = nI f) :
    fX12_makeS_b11 N (m + 1) x = fX12_makeS_b11 N m (zsA (zsI x 0 63 (nI b)) 34 f (nI r)) := by
  rw [popG hR hb h36 (by decide) h37 hj h15, if_neg (by decide)]
  unfold fX12_goesOnS
  have hR2 := RM_63 (b := b) hR
  have h15' : zA (zsI x 0 63 (nI b)) 15 j = 22 := h15
  have h39' : zA (zsI x 0 63 (nI b)) 39 j = nI f := h39
  rw [if_neg (by decide), if_neg (by decide), if_neg (by decide), nI_clamp (by omega), if_neg (ixN hj (by omega)), h15', if_neg (by decide)]
  unfold fX12_goesOnS_b164
  rw [nI_clamp (by omega), if_neg (ixN hj (by omega)), h39', landR (by omega) hR2.2.1, obd_s, obd_s]
theorem endSW {N m b j r f p : Nat} {G : gE} {st : Nat → Int32} {np : Int32} {x : zSt} (hR : RM G st np x r (b + 1)) (hr : r + 2 < 29900) (hb : b < 5900) (h36 : zA x 36 b = 7) (h37 : zA x 37 b = nI j) (hj : j < 4200) (h15 : zA x 15 j = 23) (hf : f < 29900) (h39 : zA x 39 j = nI f) (h38 : zA x 38 j = nI p) :
    fX12_makeS_b11 N (m + 1) x = fX12_makeS_b11 N m (zsA (ptS (ptS (zsI x 0 63 (nI b)) r 30) (r + 1) (nI p)) 34 f (nI (r + 2))) := by
  rw [popG hR hb h36 (by decide) h37 hj h15, if_neg (by decide)]
  unfold fX12_goesOnS
  have hR2 := RM_63 (b := b) hR
  have h15' : zA (zsI x 0 63 (nI b)) 15 j = 23 := h15
  rw [if_neg (by decide), if_neg (by decide), if_neg (by decide), nI_clamp (by omega), if_neg (ixN hj (by omega)), h15', if_pos rfl, putR hR2.2.1 (by omega), obd_s, if_neg (ixN hj (by omega)), pt_A (by omega), zA_I, h38, putR pt_61 (by omega), obd_s]
  unfold fX12_goesOnS_b164
  rw [nI_clamp (by omega), if_neg (ixN hj (by omega)), pt_A (by omega), pt_A (by omega), zA_I, h39, landR (by omega) pt_61, obd_s, obd_s]
/-- ( E ) S of if and while: up to the end of S -/
theorem mk_IW {N : Nat} {G : gE} {st : Nat → Int32} {np : Int32} {A B : fT} {lo hi p b j p1 q1 k : Nat} {kk : Int32} {τ : zSt} (hA : MKp N G st np 2 A) (hB : MKp N G st np 0 B) (hR : RM G st np τ p (b + 1)) (h36 : zA τ 36 b = 0) (h37 : zA τ 37 b = nI j) (hj : j < 4200) (r15 : zA τ 15 j = nI k) (ra : rep τ A (j + 1) p1 (zA τ 16 j)) (rb : rep τ B p1 q1 (zA τ 17 j)) (b0 : lo ≤ j) (b1 : j + 1 ≤ p1) (b2 : p1 ≤ q1) (b3 : q1 ≤ hi) (hk : (k = 23 ∧ kk = 7) ∨ (k = 22 ∧ zA τ 18 j = -1 ∧ kk = 7) ∨ (k = 22 ∧ 0 ≤ zA τ 18 j ∧ kk = 6)) (hp : p + ((gl A).2 + (2 + (gl B).2)) ≤ 29000) (hb : b + 3 * (1 + cN A + cN B) ≤ 5900) :
    ∃ x n, (∀ m, fX12_makeS_b11 N (m + n) τ = fX12_makeS_b11 N m x) ∧ n + 2 ≤ 6 * cN A + 6 * cN B ∧ fM lo hi p b τ x ∧ RM G st np x (p + (gl A).2 + 2 + (gl B).2) (b + 1) ∧ cd x p ((gn st np A).2 p) ∧ zA x 34 (p + (gl A).2) = 31 ∧ cd x (p + (gl A).2 + 2) ((gn st np B).2 (p + (gl A).2 + 2)) ∧ zA x 36 b = kk ∧ zA x 37 b = nI j ∧ zA x 38 j = nI p ∧ zA x 39 j = nI (p + (gl A).2 + 1) := by
  have hlA := (gn_len st np A).2 p
  have hbeg := fun m => begSI (N := N) (m := m) hR (by omega) h36 h37 hj r15 (by omega)
  have hR1 : RM G st np (tsS (tsS (zsA (zsI τ 0 63 (nI b)) 38 j (nI p)) b 5 (nI j)) (b + 1) 2 (zA τ 16 j)) p (b + 2) := RM_ts (RM_ts (RM_A (RM_63 hR) (by omega)))
  have hF1 : fM lo hi p b τ (tsS (tsS (zsA (zsI τ 0 63 (nI b)) 38 j (nI p)) b 5 (nI j)) (b + 1) 2 (zA τ 16 j)) := fM_ts (fM_ts (fM_A (fM_63 fM_refl) (by omega)) (Nat.le_refl _)) (by omega)
  have d38 : zA (tsS (tsS (zsA (zsI τ 0 63 (nI b)) 38 j (nI p)) b 5 (nI j)) (b + 1) 2 (zA τ 16 j)) 38 j = nI p := by (repeat (first | rw [pt_34] | rw [zA_A, if_pos ⟨rfl, rfl⟩] | rw [pt_A (by omega)] | rw [zA_A, if_neg (by omega)] | rw [ts_A (by omega)] | rw [zA_I]))
  obtain ⟨u, k1, g1, g2, g3, g3b, g4, g5, g6, g7⟩ := mk_half hA ra (by omega) (by omega) hF1 hR1 (by rw [ts_A (by omega), ts_36]) (by rw [ts_A (by omega), ts_37]) ts_36 ts_37 (by omega) (by omega)
  have u38 : zA u 38 j = nI p := (g3b.2.2.2 38 j (Or.inl (by omega)) (Or.inl (by omega)) (Or.inr (by omega))).trans d38
  have hhalf := fun m => halfS (N := N) (m := m) (k := k) (kk := kk) g4 (by omega) (by omega) g6 g7 hj ((fM_n g3 (by omega) j).trans r15) (by rw [fM_n g3 (by omega) j]; exact hk)
  have hRH : RM G st np (tsS (tsS (zsA (ptS (ptS (zsI u 0 63 (nI b)) (p + (gl A).2) 31) (p + (gl A).2 + 1) 0) 39 j (nI (p + (gl A).2 + 1))) b kk (nI j)) (b + 1) 0 (zA u 17 j)) (p + (gl A).2 + 2) (b + 2) := RM_ts (RM_ts (RM_A (RM_pt (RM_pt (RM_63 g4))) (by omega)))
  have hFH : fM lo hi (p + (gl A).2) b u (tsS (tsS (zsA (ptS (ptS (zsI u 0 63 (nI b)) (p + (gl A).2) 31) (p + (gl A).2 + 1) 0) 39 j (nI (p + (gl A).2 + 1))) b kk (nI j)) (b + 1) 0 (zA u 17 j)) := fM_ts (fM_ts (fM_A (fM_pt (fM_pt (fM_63 fM_refl) (Nat.le_refl _)) (by omega)) (by omega)) (Nat.le_refl _)) (by omega)
  have c31 : zA (tsS (tsS (zsA (ptS (ptS (zsI u 0 63 (nI b)) (p + (gl A).2) 31) (p + (gl A).2 + 1) 0) 39 j (nI (p + (gl A).2 + 1))) b kk (nI j)) (b + 1) 0 (zA u 17 j)) 34 (p + (gl A).2) = 31 := by (repeat (first | rw [pt_34] | rw [zA_A, if_pos ⟨rfl, rfl⟩] | rw [pt_A (by omega)] | rw [zA_A, if_neg (by omega)] | rw [ts_A (by omega)] | rw [zA_I]))
  have c39 : zA (tsS (tsS (zsA (ptS (ptS (zsI u 0 63 (nI b)) (p + (gl A).2) 31) (p + (gl A).2 + 1) 0) 39 j (nI (p + (gl A).2 + 1))) b kk (nI j)) (b + 1) 0 (zA u 17 j)) 39 j = nI (p + (gl A).2 + 1) := by (repeat (first | rw [pt_34] | rw [zA_A, if_pos ⟨rfl, rfl⟩] | rw [pt_A (by omega)] | rw [zA_A, if_neg (by omega)] | rw [ts_A (by omega)] | rw [zA_I]))
  have c38 : zA (tsS (tsS (zsA (ptS (ptS (zsI u 0 63 (nI b)) (p + (gl A).2) 31) (p + (gl A).2 + 1) 0) 39 j (nI (p + (gl A).2 + 1))) b kk (nI j)) (b + 1) 0 (zA u 17 j)) 38 j = nI p := by (repeat (first | rw [pt_34] | rw [zA_A, if_pos ⟨rfl, rfl⟩] | rw [pt_A (by omega)] | rw [zA_A, if_neg (by omega)] | rw [ts_A (by omega)] | rw [zA_I])); exact u38
  have t36 : zA (tsS (tsS (zsA (ptS (ptS (zsI u 0 63 (nI b)) (p + (gl A).2) 31) (p + (gl A).2 + 1) 0) 39 j (nI (p + (gl A).2 + 1))) b kk (nI j)) (b + 1) 0 (zA u 17 j)) 36 b = kk := by rw [ts_A (by omega), ts_36]
  have t37 : zA (tsS (tsS (zsA (ptS (ptS (zsI u 0 63 (nI b)) (p + (gl A).2) 31) (p + (gl A).2 + 1) 0) 39 j (nI (p + (gl A).2 + 1))) b kk (nI j)) (b + 1) 0 (zA u 17 j)) 37 b = nI j := by rw [ts_A (by omega), ts_37]
  have s36 : zA (tsS (tsS (zsA (ptS (ptS (zsI u 0 63 (nI b)) (p + (gl A).2) 31) (p + (gl A).2 + 1) 0) 39 j (nI (p + (gl A).2 + 1))) b kk (nI j)) (b + 1) 0 (zA u 17 j)) 36 (b + 1) = 0 := ts_36
  have s37 : zA (tsS (tsS (zsA (ptS (ptS (zsI u 0 63 (nI b)) (p + (gl A).2) 31) (p + (gl A).2 + 1) 0) 39 j (nI (p + (gl A).2 + 1))) b kk (nI j)) (b + 1) 0 (zA u 17 j)) 37 (b + 1) = zA u 17 j := ts_37
  revert hRH hFH c31 c38 c39 t36 t37 s36 s37 hhalf
  generalize tsS (tsS (zsA (ptS (ptS (zsI u 0 63 (nI b)) (p + (gl A).2) 31) (p + (gl A).2 + 1) 0) 39 j (nI (p + (gl A).2 + 1))) b kk (nI j)) (b + 1) 0 (zA u 17 j) = s2
  intro hhalf hRH hFH c31 c39 c38 t36 t37 s36 s37
  rw [fM_n g3 (by omega) j] at s37
  obtain ⟨x, k2, e1, e2, e3, e4, e5⟩ := hB p1 q1 (zA τ 17 j) s2 (p + (gl A).2 + 2) (b + 1) (rep_fM hFH (rep_fM g3 rb)) hRH s36 s37 (by omega) (by omega)
  have hFx : fM lo hi (p + (gl A).2) b u x := fM_trans hFH e3 (by omega) (by omega) (by omega) (by omega)
  refine ⟨x, k2 + 1 + k1 + 1, fun m => ?_, by omega, fM_trans g3 hFx (Nat.le_refl _) (Nat.le_refl _) (by omega) (Nat.le_refl _), e4, cd_frame (fun q q1 q2 => hFx.2.2.2 34 q (Or.inr (by omega)) (Or.inl (by omega)) (Or.inl (by omega))) g5, ?_, e5, ?_, ?_, ?_, ?_⟩
  · rw [show m + (k2 + 1 + k1 + 1) = (m + k2 + 1 + k1) + 1 by omega, hbeg, g1, hhalf, e1]
  · exact (e3.2.2.2 34 (p + (gl A).2) (Or.inr (by omega)) (Or.inl (by omega)) (Or.inl (by omega))).trans c31
  · exact (e3.2.2.2 36 b (Or.inl (by omega)) (Or.inr (by omega)) (Or.inl (by omega))).trans t36
  · exact (e3.2.2.2 37 b (Or.inl (by omega)) (Or.inr (by omega)) (Or.inl (by omega))).trans t37
  · exact (e3.2.2.2 38 j (Or.inl (by omega)) (Or.inl (by omega)) (Or.inr (by omega))).trans c38
  · exact (e3.2.2.2 39 j (Or.inl (by omega)) (Or.inl (by omega)) (Or.inr (by omega))).trans c39
theorem mkS23 {N : Nat} {G : gE} {st : Nat → Int32} {np : Int32} {v w : Int} {A B C : fT} (hA : MKp N G st np 2 A) (hB : MKp N G st np 0 B) : MKp N G st np 0 (fN 23 v w A B C) := by
  intro lo hi i τ p b hr hR h36 h37 hp hb
  rw [rep_N] at hr
  obtain ⟨j, rfl, hj, hlh, r15, r19, r20, ly⟩ := hr
  obtain ⟨e, p1, q1, b1, b2, b3, ra, rb, rc⟩ := ly.1 (by omega)
  have hg : (gl (fN 23 v w A B C)).2 = (gl A).2 + (2 + ((gl B).2 + 2)) := by rw [gl_N]; rfl
  have hcn : cN (fN 23 v w A B C) = 1 + cN A + cN B + cN C := cN_N
  have hlA := (gn_len st np A).2 p
  have hlB := (gn_len st np B).2 (p + (gl A).2 + 2)
  obtain ⟨x, n, g1, g2, g3, g4, g5, g6, g7, g8, g9, g10, g11⟩ := mk_IW (lo := lo) (hi := hi) (k := 23) (kk := 7) hA hB hR h36 h37 hj r15 ra rb hlh.1 b1 b2 b3 (Or.inl ⟨rfl, rfl⟩) (by omega) (by omega)
  have hend := fun m => endSW (N := N) (m := m) g4 (by omega) (by omega) g8 g9 hj ((fM_n g3 (by omega) j).trans r15) (by omega) g11 g10
  have hcell : ∀ i, zA (zsA (ptS (ptS (zsI x 0 63 (nI b)) (p + (gl A).2 + 2 + (gl B).2) 30) (p + (gl A).2 + 2 + (gl B).2 + 1) (nI p)) 34 (p + (gl A).2 + 1) (nI (p + (gl A).2 + 2 + (gl B).2 + 2))) 34 i = if i = p + (gl A).2 + 1 then nI (p + (gl A).2 + 2 + (gl B).2 + 2) else if i = p + (gl A).2 + 2 + (gl B).2 then 30 else if i = p + (gl A).2 + 2 + (gl B).2 + 1 then nI p else zA x 34 i := by
    intro i
    by_cases e1 : i = p + (gl A).2 + 1
    · rw [if_pos e1, e1, zA_A, if_pos ⟨rfl, rfl⟩]
    · rw [if_neg e1, zA_A, if_neg (by omega)]
      by_cases e2 : i = p + (gl A).2 + 2 + (gl B).2
      · rw [if_pos e2, e2, pt_A (by omega), pt_34]
      · rw [if_neg e2]
        by_cases e3 : i = p + (gl A).2 + 2 + (gl B).2 + 1
        · rw [if_pos e3, e3, pt_34]
        · rw [if_neg e3, pt_A (by omega), pt_A (by omega), zA_I]
  refine ⟨_, 1 + n, fun m => ?_, by omega, fM_A (p := p) (a := 34) (q := p + (gl A).2 + 1) (v := nI (p + (gl A).2 + 2 + (gl B).2 + 2)) (fM_pt (q := p + (gl A).2 + 2 + (gl B).2 + 1) (v := nI p) (fM_pt (q := p + (gl A).2 + 2 + (gl B).2) (v := 30) (fM_63 (v := nI b) g3) (by omega)) (by omega)) (by omega), ?_, ?_⟩
  · rw [show m + (1 + n) = (m + 1) + n by omega, g1, hend]
  · rw [hg, show p + ((gl A).2 + (2 + ((gl B).2 + 2))) = p + (gl A).2 + 2 + (gl B).2 + 2 by omega]
    exact RM_A (RM_pt (RM_pt (RM_63 g4))) (by omega)
  · rw [gn_N]
    show cd _ p ((gn st np A).2 p ++ ([31, nI (p + ((gn st np A).2 p).length + 2 + ((gn st np B).2 (p + ((gn st np A).2 p).length + 2)).length + 2)] ++ ((gn st np B).2 (p + ((gn st np A).2 p).length + 2) ++ [30, nI p])))
    rw [hlA, hlB]
    refine cd_app (cd_frame (fun q q1 q2 => ?_) g5) ?_
    · rw [hcell, if_neg (by omega), if_neg (by omega), if_neg (by omega)]
    · rw [hlA]
      refine cd_app (cd_cons ?_ (cd_cons ?_ cd_nil)) ?_
      · rw [hcell, if_neg (by omega), if_neg (by omega), if_neg (by omega)]; exact g6
      · rw [hcell, if_pos rfl]
      · show cd _ (p + (gl A).2 + 2) _
        refine cd_app (cd_frame (fun q q1 q2 => ?_) g7) ?_
        · rw [hlB] at q2
          rw [hcell, if_neg (by omega), if_neg (by omega), if_neg (by omega)]
        · rw [hlB]
          refine cd_cons ?_ (cd_cons ?_ cd_nil)
          · rw [hcell, if_neg (by omega), if_pos rfl]
          · rw [hcell, if_neg (by omega), if_neg (by omega), if_pos rfl]
/-- if without else -/
theorem mkS22 {N : Nat} {G : gE} {st : Nat → Int32} {np : Int32} {v w : Int} {A B C : fT} (hA : MKp N G st np 2 A) (hB : MKp N G st np 0 B) (hz : isZ C) : MKp N G st np 0 (fN 22 v w A B C) := by
  intro lo hi i τ p b hr hR h36 h37 hp hb
  rw [rep_N] at hr
  obtain ⟨j, rfl, hj, hlh, r15, r19, r20, ly⟩ := hr
  obtain ⟨e, p1, q1, b1, b2, b3, ra, rb, rc⟩ := ly.1 (by omega)
  rw [rep_isZ hz] at rc
  have hg : (gl (fN 22 v w A B C)).2 = (gl A).2 + (2 + (gl B).2) := by
    rw [gl_N, gl_isZ hz]; rfl
  have hcn : cN (fN 22 v w A B C) = 1 + cN A + cN B + cN C := cN_N
  have hlA := (gn_len st np A).2 p
  have hlB := (gn_len st np B).2 (p + (gl A).2 + 2)
  obtain ⟨x, n, g1, g2, g3, g4, g5, g6, g7, g8, g9, g10, g11⟩ := mk_IW (lo := lo) (hi := hi) (k := 22) (kk := 7) hA hB hR h36 h37 hj r15 ra rb hlh.1 b1 b2 b3 (Or.inr (Or.inl ⟨rfl, rc.2, rfl⟩)) (by omega) (by omega)
  have hend := fun m => endSI (N := N) (m := m) g4 (by omega) g8 g9 hj ((fM_n g3 (by omega) j).trans r15) (by omega) g11
  have hcell : ∀ i, zA (zsA (zsI x 0 63 (nI b)) 34 (p + (gl A).2 + 1) (nI (p + (gl A).2 + 2 + (gl B).2))) 34 i = if i = p + (gl A).2 + 1 then nI (p + (gl A).2 + 2 + (gl B).2) else zA x 34 i := by
    intro i
    by_cases e1 : i = p + (gl A).2 + 1
    · rw [if_pos e1, e1, zA_A, if_pos ⟨rfl, rfl⟩]
    · rw [if_neg e1, zA_A, if_neg (by omega), zA_I]
  refine ⟨_, 1 + n, fun m => ?_, by omega, fM_A (p := p) (a := 34) (q := p + (gl A).2 + 1) (v := nI (p + (gl A).2 + 2 + (gl B).2)) (fM_63 (v := nI b) g3) (by omega), ?_, ?_⟩
  · rw [show m + (1 + n) = (m + 1) + n by omega, g1, hend]
  · rw [hg, show p + ((gl A).2 + (2 + (gl B).2)) = p + (gl A).2 + 2 + (gl B).2 by omega]
    exact RM_A (RM_63 g4) (by omega)
  · rw [gn_N, gn_isZ hz]
    show cd _ p ((gn st np A).2 p ++ ([31, nI (p + ((gn st np A).2 p).length + 2 + ((gn st np B).2 (p + ((gn st np A).2 p).length + 2)).length)] ++ (gn st np B).2 (p + ((gn st np A).2 p).length + 2)))
    rw [hlA, hlB]
    refine cd_app (cd_frame (fun q q1 q2 => ?_) g5) ?_
    · rw [hcell, if_neg (by omega)]
    · rw [hlA]
      refine cd_app (cd_cons ?_ (cd_cons ?_ cd_nil)) ?_
      · rw [hcell, if_neg (by omega)]; exact g6
      · rw [hcell, if_pos rfl]
      · show cd _ (p + (gl A).2 + 2) _
        refine cd_frame (fun q q1 q2 => ?_) g7
        rw [hcell, if_neg (by omega)]
def lsS (x : zSt) (q r b j : Nat) : zSt := zsA (zsA (zsA (ptS (ptS (zsI x 0 63 (nI b)) r 30) (r + 1) 0) 40 j (nI (r + 1))) 34 (q + 1) (nI (r + 2))) 39 j (nI (r + 1))
theorem lastS {N m b j r q : Nat} {G : gE} {st : Nat → Int32} {np : Int32} {x : zSt} (hR : RM G st np x r (b + 1)) (hr : r + 2 < 29900) (hb : b < 5900) (h36 : zA x 36 b = 6) (h37 : zA x 37 b = nI j) (hj : j < 4200) (h15 : zA x 15 j = 22) (hf : q + 1 < r) (h39 : zA x 39 j = nI (q + 1)) :
    fX12_makeS_b11 N (m + 1) x = fX12_makeS_b11 N m (tsS (tsS (lsS x q r b j) b 7 (nI j)) (b + 1) 0 (zA x 18 j)) := by
  rw [popG hR hb h36 (by decide) h37 hj h15, if_neg (by decide)]
  unfold fX12_goesOnS
  have hR2 := RM_63 (b := b) hR
  have e39 : zA (zsA (ptS (ptS (zsI x 0 63 (nI b)) r 30) (r + 1) 0) 40 j (nI (r + 1))) 39 j = nI (q + 1) := by (repeat (first | rw [pt_34] | rw [zA_A, if_pos ⟨rfl, rfl⟩] | rw [pt_A (by omega)] | rw [zA_A, if_neg (by omega)] | rw [ts_A (by omega)] | rw [zA_I])); exact h39
  have e61 : zI (zsA (ptS (ptS (zsI x 0 63 (nI b)) r 30) (r + 1) 0) 40 j (nI (r + 1))) 0 61 = nI (r + 2) := by rw [zI_A]; exact pt_61
  have e40 : zA (zsA (zsA (ptS (ptS (zsI x 0 63 (nI b)) r 30) (r + 1) 0) 40 j (nI (r + 1))) 34 (q + 1) (nI (r + 2))) 40 j = nI (r + 1) := by (repeat (first | rw [pt_34] | rw [zA_A, if_pos ⟨rfl, rfl⟩] | rw [pt_A (by omega)] | rw [zA_A, if_neg (by omega)] | rw [ts_A (by omega)] | rw [zA_I]))
  have e63 : zI (lsS x q r b j) 0 63 = nI b := by unfold lsS; rw [zI_A, zI_A, zI_A, pt_63, pt_63, zI_I, if_pos ⟨rfl, rfl⟩]
  have e18 : zA (lsS x q r b j) 18 j = zA x 18 j := by unfold lsS; (repeat (first | rw [pt_34] | rw [zA_A, if_pos ⟨rfl, rfl⟩] | rw [pt_A (by omega)] | rw [zA_A, if_neg (by omega)] | rw [ts_A (by omega)] | rw [zA_I]))
  rw [if_neg (by decide), if_neg (by decide), if_pos rfl, jumpR hR2.2.1 (by omega), obd_s, nI_clamp (by omega), if_neg (ixN hj (by omega)), bnd_e, if_neg (ixN hj (by omega)), e39, landR (by omega) e61, obd_s, if_neg (ixN hj (by omega)), if_neg (ixN hj (by omega)), bnd_e, e40]
  rw [show zsA (zsA (zsA (ptS (ptS (zsI x 0 63 (nI b)) r 30) (r + 1) 0) 40 j (nI (r + 1))) 34 (q + 1) (nI (r + 2))) 39 j (nI (r + 1)) = lsS x q r b j from rfl]
  rw [taskR e63 (by omega), obd_s, if_neg (ixN hj (by omega)), ts_A (by omega), e18, taskR ts_63 (by omega), obd_s, obd_s]
/-- if with else -/
theorem mkS22e {N : Nat} {G : gE} {st : Nat → Int32} {np : Int32} {v w : Int} {A B C : fT} (hA : MKp N G st np 2 A) (hB : MKp N G st np 0 B) (hC : MKp N G st np 0 C) (hn : ∃ a b c d e f, C = fN a b c d e f) : MKp N G st np 0 (fN 22 v w A B C) := by
  intro lo hi i τ p b hr hR h36 h37 hp hb
  rw [rep_N] at hr
  obtain ⟨j, rfl, hj, hlh, r15, r19, r20, ly⟩ := hr
  obtain ⟨e, p1, q1, b1, b2, b3, ra, rb, rc⟩ := ly.1 (by omega)
  have htrue : (gl C).1 = true := by obtain ⟨a', b', c', d', e', f', rfl⟩ := hn; rw [gl_N]; rfl
  have htrue2 : (gn st np C).1 = true := by obtain ⟨a', b', c', d', e', f', rfl⟩ := hn; rw [gn_N]; rfl
  have hpos : ∃ j2, zA τ 18 j = nI j2 ∧ j2 < 4200 := by
    obtain ⟨a', b', c', d', e', f', rfl⟩ := hn
    obtain ⟨j2, q1, q2, -⟩ := rep_pos rc
    exact ⟨j2, q1, q2⟩
  obtain ⟨j2, ej2, hj2⟩ := hpos
  have hg : (gl (fN 22 v w A B C)).2 = (gl A).2 + (2 + ((gl B).2 + (2 + (gl C).2))) := by
    rw [gl_N]
    show (if (gl C).1 = true then _ else _) = _
    rw [if_pos htrue]
  have hcn : cN (fN 22 v w A B C) = 1 + cN A + cN B + cN C := cN_N
  have hlA := (gn_len st np A).2 p
  have hlB := (gn_len st np B).2 (p + (gl A).2 + 2)
  have hlC := (gn_len st np C).2 (p + (gl A).2 + 2 + (gl B).2 + 2)
  obtain ⟨x, n, g1, g2, g3, g4, g5, g6, g7, g8, g9, g10, g11⟩ := mk_IW (lo := lo) (hi := hi) (k := 22) (kk := 6) hA hB hR h36 h37 hj r15 ra rb hlh.1 b1 b2 b3 (Or.inr (Or.inr ⟨rfl, by rw [ej2]; exact nI_pos' (by omega), rfl⟩)) (by omega) (by omega)
  have hlast := fun m => lastS (N := N) (m := m) g4 (by omega) (by omega) g8 g9 hj ((fM_n g3 (by omega) j).trans r15) (by omega) g11
  have hRL : RM G st np (tsS (tsS (lsS x (p + (gl A).2) (p + (gl A).2 + 2 + (gl B).2) b j) b 7 (nI j)) (b + 1) 0 (zA x 18 j)) (p + (gl A).2 + 2 + (gl B).2 + 2) (b + 2) := by unfold lsS; exact RM_ts (RM_ts (RM_A (RM_A (RM_A (RM_pt (RM_pt (RM_63 g4))) (by omega)) (by omega)) (by omega)))
  have hFL : fM lo hi (p + (gl A).2 + 1) b x (tsS (tsS (lsS x (p + (gl A).2) (p + (gl A).2 + 2 + (gl B).2) b j) b 7 (nI j)) (b + 1) 0 (zA x 18 j)) := by unfold lsS; exact fM_ts (fM_ts (fM_A (fM_A (fM_A (fM_pt (fM_pt (fM_63 fM_refl) (by omega)) (by omega)) (by omega)) (by omega)) (by omega)) (Nat.le_refl _)) (by omega)
  have cL : ∀ i, i < p + (gl A).2 + 2 + (gl B).2 → zA (tsS (tsS (lsS x (p + (gl A).2) (p + (gl A).2 + 2 + (gl B).2) b j) b 7 (nI j)) (b + 1) 0 (zA x 18 j)) 34 i = if i = p + (gl A).2 + 1 then nI (p + (gl A).2 + 2 + (gl B).2 + 2) else zA x 34 i := by
    intro i hi
    by_cases e1 : i = p + (gl A).2 + 1
    · rw [if_pos e1, e1]; unfold lsS; (repeat (first | rw [pt_34] | rw [zA_A, if_pos ⟨rfl, rfl⟩] | rw [pt_A (by omega)] | rw [zA_A, if_neg (by omega)] | rw [ts_A (by omega)] | rw [zA_I]))
    · rw [if_neg e1]; unfold lsS; (repeat (first | rw [pt_34] | rw [zA_A, if_pos ⟨rfl, rfl⟩] | rw [pt_A (by omega)] | rw [zA_A, if_neg (by omega)] | rw [ts_A (by omega)] | rw [zA_I]))
  have c30 : zA (tsS (tsS (lsS x (p + (gl A).2) (p + (gl A).2 + 2 + (gl B).2) b j) b 7 (nI j)) (b + 1) 0 (zA x 18 j)) 34 (p + (gl A).2 + 2 + (gl B).2) = 30 := by unfold lsS; (repeat (first | rw [pt_34] | rw [zA_A, if_pos ⟨rfl, rfl⟩] | rw [pt_A (by omega)] | rw [zA_A, if_neg (by omega)] | rw [ts_A (by omega)] | rw [zA_I]))
  have c39 : zA (tsS (tsS (lsS x (p + (gl A).2) (p + (gl A).2 + 2 + (gl B).2) b j) b 7 (nI j)) (b + 1) 0 (zA x 18 j)) 39 j = nI (p + (gl A).2 + 2 + (gl B).2 + 1) := by unfold lsS; (repeat (first | rw [pt_34] | rw [zA_A, if_pos ⟨rfl, rfl⟩] | rw [pt_A (by omega)] | rw [zA_A, if_neg (by omega)] | rw [ts_A (by omega)] | rw [zA_I]))
  have t36 : zA (tsS (tsS (lsS x (p + (gl A).2) (p + (gl A).2 + 2 + (gl B).2) b j) b 7 (nI j)) (b + 1) 0 (zA x 18 j)) 36 b = 7 := by rw [ts_A (by omega), ts_36]
  have t37 : zA (tsS (tsS (lsS x (p + (gl A).2) (p + (gl A).2 + 2 + (gl B).2) b j) b 7 (nI j)) (b + 1) 0 (zA x 18 j)) 37 b = nI j := by rw [ts_A (by omega), ts_37]
  have s36 : zA (tsS (tsS (lsS x (p + (gl A).2) (p + (gl A).2 + 2 + (gl B).2) b j) b 7 (nI j)) (b + 1) 0 (zA x 18 j)) 36 (b + 1) = 0 := ts_36
  have s37 : zA (tsS (tsS (lsS x (p + (gl A).2) (p + (gl A).2 + 2 + (gl B).2) b j) b 7 (nI j)) (b + 1) 0 (zA x 18 j)) 37 (b + 1) = zA x 18 j := ts_37
  revert hRL hFL cL c30 c39 t36 t37 s36 s37 hlast
  generalize tsS (tsS (lsS x (p + (gl A).2) (p + (gl A).2 + 2 + (gl B).2) b j) b 7 (nI j)) (b + 1) 0 (zA x 18 j) = s3
  intro hlast hRL hFL cL c30 c39 t36 t37 s36 s37
  rw [fM_n g3 (by omega) j] at s37
  obtain ⟨y, k3, e1, e2, e3, e4, e5⟩ := hC q1 hi (zA τ 18 j) s3 (p + (gl A).2 + 2 + (gl B).2 + 2) (b + 1) (rep_fM hFL (rep_fM g3 rc)) hRL s36 s37 (by omega) (by omega)
  have hFy : fM lo hi (p + (gl A).2 + 1) b x y := fM_trans hFL e3 (by omega) (Nat.le_refl _) (by omega) (by omega)
  have y36 : zA y 36 b = 7 := (e3.2.2.2 36 b (Or.inl (by omega)) (Or.inr (by omega)) (Or.inl (by omega))).trans t36
  have y37 : zA y 37 b = nI j := (e3.2.2.2 37 b (Or.inl (by omega)) (Or.inr (by omega)) (Or.inl (by omega))).trans t37
  have y39 : zA y 39 j = nI (p + (gl A).2 + 2 + (gl B).2 + 1) := (e3.2.2.2 39 j (Or.inl (by omega)) (Or.inl (by omega)) (Or.inr (by omega))).trans c39
  have hend := fun m => endSI (N := N) (m := m) e4 (by omega) y36 y37 hj ((fM_n hFy (by omega) j).trans ((fM_n g3 (by omega) j).trans r15)) (by omega) y39
  have hcell : ∀ i, i < p + (gl A).2 + 2 + (gl B).2 + 2 + (gl C).2 → i ≠ p + (gl A).2 + 2 + (gl B).2 + 1 → zA (zsA (zsI y 0 63 (nI b)) 34 (p + (gl A).2 + 2 + (gl B).2 + 1) (nI (p + (gl A).2 + 2 + (gl B).2 + 2 + (gl C).2))) 34 i = zA y 34 i := fun i _ h => by rw [zA_A, if_neg (by omega), zA_I]
  have yc : ∀ i, i < p + (gl A).2 + 2 + (gl B).2 + 2 → zA y 34 i = zA s3 34 i := fun i hi => e3.2.2.2 34 i (Or.inr (by omega)) (Or.inl (by omega)) (Or.inl (by omega))
  have hFτ : fM lo hi p b τ y := fM_trans g3 hFy (Nat.le_refl _) (Nat.le_refl _) (by omega) (Nat.le_refl _)
  refine ⟨_, 1 + k3 + 1 + n, fun m => ?_, by omega, fM_A (p := p) (a := 34) (q := p + (gl A).2 + 2 + (gl B).2 + 1) (v := nI (p + (gl A).2 + 2 + (gl B).2 + 2 + (gl C).2)) (fM_63 (v := nI b) hFτ) (by omega), ?_, ?_⟩
  · rw [show m + (1 + k3 + 1 + n) = (m + 1 + k3 + 1) + n by omega, g1, hlast, e1, hend]
  · rw [hg, show p + ((gl A).2 + (2 + ((gl B).2 + (2 + (gl C).2)))) = p + (gl A).2 + 2 + (gl B).2 + 2 + (gl C).2 by omega]
    exact RM_A (RM_63 e4) (by omega)
  · rw [gn_N]
    show cd _ p (if (gn st np C).1 = true then (gn st np A).2 p ++ ([31, nI (p + ((gn st np A).2 p).length + 2 + ((gn st np B).2 (p + ((gn st np A).2 p).length + 2)).length + 2)] ++ ((gn st np B).2 (p + ((gn st np A).2 p).length + 2) ++ ([30, nI (p + ((gn st np A).2 p).length + 2 + ((gn st np B).2 (p + ((gn st np A).2 p).length + 2)).length + 2 + ((gn st np C).2 (p + ((gn st np A).2 p).length + 2 + ((gn st np B).2 (p + ((gn st np A).2 p).length + 2)).length + 2)).length)] ++ (gn st np C).2 (p + ((gn st np A).2 p).length + 2 + ((gn st np B).2 (p + ((gn st np A).2 p).length + 2)).length + 2)))) else _)
    rw [if_pos htrue2, hlA, hlB, hlC]
    refine cd_app (cd_frame (fun q q1 q2 => ?_) g5) ?_
    · rw [hcell q (by omega) (by omega), yc q (by omega), cL q (by omega), if_neg (by omega)]
    · rw [hlA]
      refine cd_app (cd_cons ?_ (cd_cons ?_ cd_nil)) ?_
      · rw [hcell _ (by omega) (by omega), yc _ (by omega), cL _ (by omega), if_neg (by omega)]; exact g6
      · rw [hcell _ (by omega) (by omega), yc _ (by omega), cL _ (by omega), if_pos rfl]
      · show cd _ (p + (gl A).2 + 2) _
        refine cd_app (cd_frame (fun q q1 q2 => ?_) g7) ?_
        · rw [hlB] at q2
          rw [hcell q (by omega) (by omega), yc q (by omega), cL q (by omega), if_neg (by omega)]
        · rw [hlB]
          refine cd_app (cd_cons ?_ (cd_cons ?_ cd_nil)) ?_
          · rw [hcell _ (by omega) (by omega), yc _ (by omega)]; exact c30
          · rw [zA_A, if_pos ⟨rfl, rfl⟩]
          · show cd _ (p + (gl A).2 + 2 + (gl B).2 + 2) _
            refine cd_frame (fun q q1 q2 => ?_) e5
            rw [hlC] at q2
            rw [hcell q (by omega) (by omega)]
