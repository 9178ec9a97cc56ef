/-! THE REFERENCE MAKES CODE: && and || -/
/-- first part, then the loop is at the node with task 5 -/
theorem mk_half {N : Nat} {G : gE} {st : Nat → Int32} {np : Int32} {A : fT} {lo hi lo' hi' p b j : Nat} {a : Int32} {τ s1 : zSt} (hA : MKp N G st np 2 A) (hr : rep τ A lo' hi' a) (h1 : lo ≤ lo') (h2 : hi' ≤ hi) (hF1 : fM lo hi p b τ s1) (hR1 : RM G st np s1 p (b + 2)) (t36 : zA s1 36 b = 5) (t37 : zA s1 37 b = nI j) (s36 : zA s1 36 (b + 1) = 2) (s37 : zA s1 37 (b + 1) = a) (hp : p + (gl A).2 ≤ 29000) (hb : b + 1 + 3 * cN A ≤ 5900) :
    ∃ u k, (∀ m, fX12_makeS_b11 N (m + k) s1 = fX12_makeS_b11 N m u) ∧ k + 2 ≤ 6 * cN A ∧ fM lo hi p b τ u ∧ fM lo' hi' p (b + 1) s1 u ∧ RM G st np u (p + (gl A).2) (b + 1) ∧ cd u p ((gn st np A).2 p) ∧ zA u 36 b = 5 ∧ zA u 37 b = nI j := by
  obtain ⟨u, k, g1, g2, g3, g4, g5⟩ := hA lo' hi' a s1 p (b + 1) (rep_fM hF1 hr) hR1 s36 s37 hp (by omega)
  exact ⟨u, k, g1, g2, fM_trans hF1 g3 h1 h2 (Nat.le_refl _) (by omega), g3, g4, g5, (g3.2.2.2 36 b (Or.inl (by omega)) (Or.inr (by omega)) (Or.inl (by omega))).trans t36, (g3.2.2.2 37 b (Or.inl (by omega)) (Or.inr (by omega)) (Or.inl (by omega))).trans t37⟩
theorem begEL {N m b j : Nat} {G : gE} {st : Nat → Int32} {np : Int32} {p : Nat} {τ : zSt} (hR : RM G st np τ p (b + 1)) (hb : b < 5900) (h36 : zA τ 36 b = 2) (h37 : zA τ 37 b = nI j) (hj : j < 4200) (hk : zA τ 15 j = 7 ∨ zA τ 15 j = 8) :
    fX12_makeS_b11 N (m + 1) τ = fX12_makeS_b11 N m (tsS (tsS (zsI τ 0 63 (nI b)) b 5 (nI j)) (b + 1) 2 (zA τ 16 j)) := by
  rw [mk_pop hR.2.2 (by omega), h36, if_neg (by decide), if_pos rfl, h37]
  unfold fX12_beginsE
  rw [nI_clamp (by omega), if_neg (ixN hj (by omega)), zA_I, bnd_e]
  have e63 : zI (zsI τ 0 63 (nI b)) 0 63 = nI b := by rw [zI_I, if_pos ⟨rfl, rfl⟩]
  rcases hk with hk | hk
  · rw [hk, if_neg (by decide), if_neg (by decide), if_neg (by decide), if_neg (by decide), if_neg (by decide), if_neg (by decide), if_pos rfl, taskR e63 (by omega), obd_s, if_neg (ixN hj (by omega)), ts_A (by omega), zA_I, taskR ts_63 (by omega), obd_s, obd_s]
  · rw [hk, if_neg (by decide), if_neg (by decide), if_neg (by decide), if_neg (by decide), if_neg (by decide), if_neg (by decide), if_neg (by decide), if_pos rfl, taskR e63 (by omega), obd_s, if_neg (ixN hj (by omega)), ts_A (by omega), zA_I, taskR ts_63 (by omega), obd_s, obd_s]
/-- between the parts of &&, of || -/
def hAn (u : zSt) (q b j : Nat) : zSt := zsA (ptS (ptS (zsI u 0 63 (nI b)) q 31) (q + 1) 0) 38 j (nI (q + 1))
def hOr (u : zSt) (q b j : Nat) : zSt := zsA (zsA (ptS (ptS (ptS (ptS (hAn u q b j) (q + 2) 1) (q + 3) 1) (q + 4) 30) (q + 5) 0) 40 j (nI (q + 5))) 34 (q + 1) (nI (q + 6))
theorem halfE {N m b j q : Nat} {G : gE} {st : Nat → Int32} {np : Int32} {u : zSt} {k : Nat} (hR : RM G st np u q (b + 1)) (hq : q + 6 < 29900) (hb : b < 5900) (h36 : zA u 36 b = 5) (h37 : zA u 37 b = nI j) (hj : j < 4200) (h15 : zA u 15 j = nI k) (hk : k = 7 ∨ k = 8) :
    fX12_makeS_b11 N (m + 1) u = fX12_makeS_b11 N m (tsS (tsS (if k = 7 then hAn u q b j else hOr u q b j) b 7 (nI j)) (b + 1) 2 (zA u 17 j)) := by
  rw [popG hR hb h36 (by decide) h37 hj h15, if_pos (by rcases hk with rfl | rfl <;> decide)]
  unfold fX12_goesOnE
  have hR2 := RM_63 (b := b) hR
  rw [if_neg (by decide), if_pos rfl, jumpR hR2.2.1 (by omega), obd_s, nI_clamp (by omega), if_neg (ixN hj (by omega)), bnd_e, if_neg (ixN hj (by omega))]
  rw [show zsA (ptS (ptS (zsI u 0 63 (nI b)) q 31) (q + 1) 0) 38 j (nI (q + 1)) = hAn u q b j from rfl]
  have e15 : zA (hAn u q b j) 15 j = nI k := by unfold hAn; rw [zA_A, if_neg (by omega), pt_A (by omega), pt_A (by omega), zA_I]; exact h15
  have e17 : zA (hAn u q b j) 17 j = zA u 17 j := by unfold hAn; rw [zA_A, if_neg (by omega), pt_A (by omega), pt_A (by omega), zA_I]
  have hRA : RM G st np (hAn u q b j) (q + 2) b := by unfold hAn; exact RM_A (RM_pt (RM_pt hR2)) (by omega)
  have e38 : zA (hAn u q b j) 38 j = nI (q + 1) := by unfold hAn; rw [zA_A, if_pos ⟨rfl, rfl⟩]
  rw [e15]
  unfold hOr
  revert e15 e17 hRA e38
  generalize hAn u q b j = s
  intro e15 e17 hRA e38
  rcases hk with rfl | rfl
  · rw [if_neg (by decide), if_pos rfl]
    unfold fX12_goesOnE_b73
    rw [taskR hRA.2.2 (by omega), obd_s, nI_clamp (by omega), if_neg (ixN hj (by omega)), ts_A (by omega), e17, taskR ts_63 (by omega), obd_s, obd_s]
  · rw [if_pos (show nI 8 = 8 from rfl), if_neg (by decide), putR hRA.2.1 (by omega), obd_s, putR pt_61 (by omega), obd_s, jumpR pt_61 (by omega), obd_s, if_neg (ixN hj (by omega)), bnd_e, if_neg (ixN hj (by omega))]
    have e38b : zA (zsA (ptS (ptS (ptS (ptS s (q + 2) 1) (q + 2 + 1) 1) (q + 2 + 1 + 1) 30) (q + 2 + 1 + 1 + 1) 0) 40 j (nI (q + 2 + 1 + 1 + 1))) 38 j = nI (q + 1) := by
      rw [zA_A, if_neg (by omega), pt_A (by omega), pt_A (by omega), pt_A (by omega), pt_A (by omega)]; exact e38
    rw [e38b, landR (by omega) (by rw [zI_A]; exact pt_61), obd_s]
    unfold fX12_goesOnE_b73
    have hRO : RM G st np (zsA (zsA (ptS (ptS (ptS (ptS s (q + 2) 1) (q + 2 + 1) 1) (q + 2 + 1 + 1) 30) (q + 2 + 1 + 1 + 1) 0) 40 j (nI (q + 2 + 1 + 1 + 1))) 34 (q + 1) (nI (q + 2 + 1 + 1 + 1 + 1))) (q + 6) b := RM_A (RM_A (RM_pt (RM_pt (RM_pt (RM_pt hRA)))) (by omega)) (by omega)
    rw [taskR hRO.2.2 (by omega), obd_s, nI_clamp (by omega), if_neg (ixN hj (by omega)), ts_A (by omega), zA_A, if_neg (by omega), zA_A, if_neg (by omega), pt_A (by omega), pt_A (by omega), pt_A (by omega), pt_A (by omega), e17, taskR ts_63 (by omega), obd_s, obd_s]
/-- behind the second part -/
def eLg (w : zSt) (r b j : Nat) : zSt := zsA (ptS (ptS (ptS (ptS (zsA (ptS (ptS (zsI w 0 63 (nI b)) r 31) (r + 1) 0) 39 j (nI (r + 1))) (r + 2) 1) (r + 3) 1) (r + 4) 30) (r + 5) 0) 34 (r + 1) (nI (r + 6))
def eLn (w : zSt) (f r b j : Nat) : zSt := zsA (ptS (ptS (zsA (eLg w r b j) 34 f (nI (r + 6))) (r + 6) 1) (r + 7) 0) 34 (r + 5) (nI (r + 8))
def eLo (w : zSt) (f r b j : Nat) : zSt := zsA (zsA (ptS (ptS (eLg w r b j) (r + 6) 1) (r + 7) 0) 34 (r + 5) (nI (r + 8))) 34 f (nI (r + 8))
theorem endE {N m b j r f : Nat} {G : gE} {st : Nat → Int32} {np : Int32} {w : zSt} {k : Nat} (hR : RM G st np w r (b + 1)) (hq : r + 8 < 29900) (hb : b < 5900) (h36 : zA w 36 b = 7) (h37 : zA w 37 b = nI j) (hj : j < 4200) (h15 : zA w 15 j = nI k) (hk : k = 7 ∨ k = 8) (hf : f < r) (hfa : zA w (if k = 7 then 38 else 40) j = nI f) :
    fX12_makeS_b11 N (m + 1) w = fX12_makeS_b11 N m (if k = 7 then eLn w f r b j else eLo w f r b j) := by
  rw [popG hR hb h36 (by decide) h37 hj h15, if_pos (by rcases hk with rfl | rfl <;> decide)]
  unfold fX12_goesOnE
  have hR2 := RM_63 (b := b) hR
  rw [if_neg (by decide), if_neg (by decide), jumpR hR2.2.1 (by omega), obd_s, nI_clamp (by omega), if_neg (ixN hj (by omega)), bnd_e]
  rw [putR (p := r + 2) (by rw [zI_A]; exact pt_61) (by omega), obd_s, putR pt_61 (by omega), obd_s, jumpR pt_61 (by omega), obd_s, if_neg (ixN hj (by omega))]
  have e39 : zA (ptS (ptS (ptS (ptS (zsA (ptS (ptS (zsI w 0 63 (nI b)) r 31) (r + 1) 0) 39 j (nI (r + 1))) (r + 2) 1) (r + 2 + 1) 1) (r + 2 + 1 + 1) 30) (r + 2 + 1 + 1 + 1) 0) 39 j = nI (r + 1) := by
    rw [pt_A (by omega), pt_A (by omega), pt_A (by omega), pt_A (by omega), zA_A, if_pos ⟨rfl, rfl⟩]
  rw [e39, landR (by omega) pt_61, obd_s, if_neg (ixN hj (by omega))]
  rw [show zsA (ptS (ptS (ptS (ptS (zsA (ptS (ptS (zsI w 0 63 (nI b)) r 31) (r + 1) 0) 39 j (nI (r + 1))) (r + 2) 1) (r + 2 + 1) 1) (r + 2 + 1 + 1) 30) (r + 2 + 1 + 1 + 1) 0) 34 (r + 1) (nI (r + 2 + 1 + 1 + 1 + 1)) = eLg w r b j from rfl, show r + 2 + 1 + 1 + 1 = r + 5 from rfl]
  have e15 : zA (eLg w r b j) 15 j = nI k := by unfold eLg; (repeat (first | rw [pt_34] | rw [zA_A, if_pos ⟨rfl, rfl⟩] | rw [pt_A (by omega)] | rw [zA_A, if_neg (by omega)] | rw [ts_A (by omega)] | rw [zA_I])); exact h15
  have e38 : zA (eLg w r b j) 38 j = zA w 38 j := by unfold eLg; (repeat (first | rw [pt_34] | rw [zA_A, if_pos ⟨rfl, rfl⟩] | rw [pt_A (by omega)] | rw [zA_A, if_neg (by omega)] | rw [ts_A (by omega)] | rw [zA_I]))
  have e40 : zA (eLg w r b j) 40 j = zA w 40 j := by unfold eLg; (repeat (first | rw [pt_34] | rw [zA_A, if_pos ⟨rfl, rfl⟩] | rw [pt_A (by omega)] | rw [zA_A, if_neg (by omega)] | rw [ts_A (by omega)] | rw [zA_I]))
  have e61 : zI (eLg w r b j) 0 61 = nI (r + 6) := by unfold eLg; rw [zI_A]; exact pt_61
  rw [e15]
  unfold eLn eLo
  revert e15 e38 e40 e61
  generalize eLg w r b j = s
  intro e15 e38 e40 e61
  rcases hk with rfl | rfl
  · rw [if_pos rfl] at hfa ⊢
    rw [if_pos (show nI 7 = 7 from rfl), if_neg (ixN hj (by omega)), e38, hfa, landR (by omega) e61, obd_s]
    unfold fX12_goesOnE_b154
    rw [nI_clamp (by omega), putR (p := r + 6) (by rw [zI_A]; exact e61) (by omega), obd_s, putR pt_61 (by omega), obd_s, landR (by omega) pt_61, obd_s, if_neg (ixN hj (by omega))]
    have e15b : zA (zsA (ptS (ptS (zsA s 34 f (nI (r + 6))) (r + 6) 1) (r + 6 + 1) 0) 34 (r + 5) (nI (r + 6 + 1 + 1))) 15 j = nI 7 := by (repeat (first | rw [pt_34] | rw [zA_A, if_pos ⟨rfl, rfl⟩] | rw [pt_A (by omega)] | rw [zA_A, if_neg (by omega)] | rw [ts_A (by omega)] | rw [zA_I])); exact e15
    rw [e15b, if_neg (by decide), obd_s]
  · rw [if_neg (by decide)] at hfa ⊢
    rw [if_neg (by decide)]
    unfold fX12_goesOnE_b154
    rw [nI_clamp (by omega), putR (p := r + 6) e61 (by omega), obd_s, putR pt_61 (by omega), obd_s, landR (by omega) pt_61, obd_s, if_neg (ixN hj (by omega))]
    have e15b : zA (zsA (ptS (ptS s (r + 6) 1) (r + 6 + 1) 0) 34 (r + 5) (nI (r + 6 + 1 + 1))) 15 j = nI 8 := by (repeat (first | rw [pt_34] | rw [zA_A, if_pos ⟨rfl, rfl⟩] | rw [pt_A (by omega)] | rw [zA_A, if_neg (by omega)] | rw [ts_A (by omega)] | rw [zA_I])); exact e15
    have e40b : zA (zsA (ptS (ptS s (r + 6) 1) (r + 6 + 1) 0) 34 (r + 5) (nI (r + 6 + 1 + 1))) 40 j = nI f := by (repeat (first | rw [pt_34] | rw [zA_A, if_pos ⟨rfl, rfl⟩] | rw [pt_A (by omega)] | rw [zA_A, if_neg (by omega)] | rw [ts_A (by omega)] | rw [zA_I])); exact e40.trans hfa
    rw [e15b, if_pos (show nI 8 = 8 from rfl), if_neg (ixN hj (by omega)), e40b, landR (by omega) (by rw [zI_A]; exact pt_61), obd_s, obd_s]
theorem eLn_A {w : zSt} {f r b j i : Nat} (hf : f < r) : zA (eLn w f r b j) 34 i = if i = f then nI (r + 6) else if i < r ∨ r + 8 ≤ i then zA w 34 i else zA (eLn w f r b j) 34 i := by
  by_cases e : i = f
  · rw [if_pos e, e]; unfold eLn; rw [zA_A, if_neg (by omega), pt_A (by omega), pt_A (by omega), zA_A, if_pos ⟨rfl, rfl⟩]
  · rw [if_neg e]
    by_cases e2 : i < r ∨ r + 8 ≤ i
    · rw [if_pos e2]; unfold eLn eLg; (repeat (first | rw [pt_34] | rw [zA_A, if_pos ⟨rfl, rfl⟩] | rw [pt_A (by omega)] | rw [zA_A, if_neg (by omega)] | rw [ts_A (by omega)] | rw [zA_I]))
    · rw [if_neg e2]
theorem eLo_A {w : zSt} {f r b j i : Nat} (hf : f < r) : zA (eLo w f r b j) 34 i = if i = f then nI (r + 8) else if i < r ∨ r + 8 ≤ i then zA w 34 i else zA (eLo w f r b j) 34 i := by
  by_cases e : i = f
  · rw [if_pos e, e]; unfold eLo; rw [zA_A, if_pos ⟨rfl, rfl⟩]
  · rw [if_neg e]
    by_cases e2 : i < r ∨ r + 8 ≤ i
    · rw [if_pos e2]; unfold eLo eLg; (repeat (first | rw [pt_34] | rw [zA_A, if_pos ⟨rfl, rfl⟩] | rw [pt_A (by omega)] | rw [zA_A, if_neg (by omega)] | rw [ts_A (by omega)] | rw [zA_I]))
    · rw [if_neg e2]
theorem eLn_cd {w : zSt} {f r b j : Nat} (hf : f < r) : cd (eLn w f r b j) r [31, nI (r + 6), 1, 1, 30, nI (r + 8), 1, 0] := by
  unfold eLn eLg
  refine cd_cons ?_ (cd_cons ?_ (cd_cons ?_ (cd_cons ?_ (cd_cons ?_ (cd_cons ?_ (cd_cons ?_ (cd_cons ?_ cd_nil))))))) <;> (repeat (first | rw [pt_34] | rw [zA_A, if_pos ⟨rfl, rfl⟩] | rw [pt_A (by omega)] | rw [zA_A, if_neg (by omega)] | rw [ts_A (by omega)] | rw [zA_I]))
theorem eLo_cd {w : zSt} {f r b j : Nat} (hf : f < r) : cd (eLo w f r b j) r [31, nI (r + 6), 1, 1, 30, nI (r + 8), 1, 0] := by
  unfold eLo eLg
  refine cd_cons ?_ (cd_cons ?_ (cd_cons ?_ (cd_cons ?_ (cd_cons ?_ (cd_cons ?_ (cd_cons ?_ (cd_cons ?_ cd_nil))))))) <;> (repeat (first | rw [pt_34] | rw [zA_A, if_pos ⟨rfl, rfl⟩] | rw [pt_A (by omega)] | rw [zA_A, if_neg (by omega)] | rw [ts_A (by omega)] | rw [zA_I]))
theorem eLg_RM {G : gE} {st : Nat → Int32} {np : Int32} {w : zSt} {r b c j : Nat} (h : RM G st np w r c) : RM G st np (eLg w r b j) (r + 6) b := by
  unfold eLg
  exact RM_A (RM_pt (RM_pt (RM_pt (RM_pt (RM_A (RM_pt (RM_pt (RM_63 h))) (by omega)))))) (by omega)
theorem eLn_RM {G : gE} {st : Nat → Int32} {np : Int32} {w : zSt} {f r b c j : Nat} (h : RM G st np w r c) : RM G st np (eLn w f r b j) (r + 8) b := by
  unfold eLn
  exact RM_A (RM_pt (RM_pt (RM_A (eLg_RM h) (by omega)))) (by omega)
theorem eLo_RM {G : gE} {st : Nat → Int32} {np : Int32} {w : zSt} {f r b c j : Nat} (h : RM G st np w r c) : RM G st np (eLo w f r b j) (r + 8) b := by
  unfold eLo
  exact RM_A (RM_A (RM_pt (RM_pt (eLg_RM h))) (by omega)) (by omega)
theorem eLg_fM {lo hi p b r j : Nat} {τ w : zSt} (h : fM lo hi p b τ w) (hr : p ≤ r) (hj : lo ≤ j ∧ j < hi) : fM lo hi p b τ (eLg w r b j) := by
  unfold eLg
  exact fM_A (fM_pt (fM_pt (fM_pt (fM_pt (fM_A (fM_pt (fM_pt (fM_63 h) hr) (by omega)) (by omega)) (by omega)) (by omega)) (by omega)) (by omega)) (by omega)
theorem eLn_fM {lo hi p b r j f : Nat} {τ w : zSt} (h : fM lo hi p b τ w) (hr : p ≤ r) (hf : p ≤ f) (hj : lo ≤ j ∧ j < hi) : fM lo hi p b τ (eLn w f r b j) := by
  unfold eLn
  exact fM_A (fM_pt (fM_pt (fM_A (eLg_fM h hr hj) (by omega)) (by omega)) (by omega)) (by omega)
theorem eLo_fM {lo hi p b r j f : Nat} {τ w : zSt} (h : fM lo hi p b τ w) (hr : p ≤ r) (hf : p ≤ f) (hj : lo ≤ j ∧ j < hi) : fM lo hi p b τ (eLo w f r b j) := by
  unfold eLo
  exact fM_A (fM_A (fM_pt (fM_pt (eLg_fM h hr hj) (by omega)) (by omega)) (by omega)) (by omega)
theorem mkE7 {N : Nat} {G : gE} {st : Nat → Int32} {np : Int32} {v w : Int} {A B C : fT} (hA : MKp N G st np 2 A) (hB : MKp N G st np 2 B) : MKp N G st np 2 (fN 7 v w A B C) := by
  intro lo hi i τ p b hr hR h36 h37 hp hb
  rw [rep_N] at hr
  obtain ⟨j, rfl, hj, hlh, r15, r19, r20, ly⟩ := hr
  obtain ⟨ra, rb, rc⟩ := ly.2 (by omega)
  have hg : (gl (fN 7 v w A B C)).2 = (gl A).2 + (2 + ((gl B).2 + 8)) := by rw [gl_N]; rfl
  have hcn : cN (fN 7 v w A B C) = 1 + cN A + cN B + cN C := cN_N
  have hlA := (gn_len st np A).2 p
  have hbeg := fun m => begEL (N := N) (m := m) hR (by omega) h36 h37 hj (Or.inl r15)
  have hR1 : RM G st np (tsS (tsS (zsI τ 0 63 (nI b)) b 5 (nI j)) (b + 1) 2 (zA τ 16 j)) p (b + 2) := RM_ts (RM_ts (RM_63 hR))
  have hF1 : fM lo hi p b τ (tsS (tsS (zsI τ 0 63 (nI b)) b 5 (nI j)) (b + 1) 2 (zA τ 16 j)) := fM_ts (fM_ts (fM_63 fM_refl) (Nat.le_refl _)) (by omega)
  obtain ⟨u, k, g1, g2, g3, g3b, g4, g5, g6, g7⟩ := mk_half hA ra (Nat.le_refl _) (by omega) hF1 hR1 (by rw [ts_A (by omega), ts_36]) (by rw [ts_A (by omega), ts_37]) ts_36 ts_37 (by omega) (by omega)
  have hhalf := fun m => halfE (N := N) (m := m) (k := 7) g4 (by omega) (by omega) g6 g7 hj ((fM_n g3 (by omega) j).trans r15) (Or.inl rfl)
  simp only [if_true] at hhalf
  have hRH : RM G st np (tsS (tsS (hAn u (p + (gl A).2) b j) b 7 (nI j)) (b + 1) 2 (zA u 17 j)) (p + (gl A).2 + 2) (b + 2) := by unfold hAn; exact RM_ts (RM_ts (RM_A (RM_pt (RM_pt (RM_63 g4))) (by omega)))
  have hFH : fM lo hi (p + (gl A).2) b u (tsS (tsS (hAn u (p + (gl A).2) b j) b 7 (nI j)) (b + 1) 2 (zA u 17 j)) := by unfold hAn; exact fM_ts (fM_ts (fM_A (fM_pt (fM_pt (fM_63 fM_refl) (Nat.le_refl _)) (by omega)) (by omega)) (Nat.le_refl _)) (by omega)
  have c31 : zA (tsS (tsS (hAn u (p + (gl A).2) b j) b 7 (nI j)) (b + 1) 2 (zA u 17 j)) 34 (p + (gl A).2) = 31 := by unfold hAn; (repeat (first | rw [pt_34] | rw [zA_A, if_pos ⟨rfl, rfl⟩] | rw [pt_A (by omega)] | rw [zA_A, if_neg (by omega)] | rw [ts_A (by omega)] | rw [zA_I]))
  have c38 : zA (tsS (tsS (hAn u (p + (gl A).2) b j) b 7 (nI j)) (b + 1) 2 (zA u 17 j)) 38 j = nI (p + (gl A).2 + 1) := by unfold hAn; (repeat (first | rw [pt_34] | rw [zA_A, if_pos ⟨rfl, rfl⟩] | rw [pt_A (by omega)] | rw [zA_A, if_neg (by omega)] | rw [ts_A (by omega)] | rw [zA_I]))
  have t36 : zA (tsS (tsS (hAn u (p + (gl A).2) b j) b 7 (nI j)) (b + 1) 2 (zA u 17 j)) 36 b = 7 := by rw [ts_A (by omega), ts_36]
  have t37 : zA (tsS (tsS (hAn u (p + (gl A).2) b j) b 7 (nI j)) (b + 1) 2 (zA u 17 j)) 37 b = nI j := by rw [ts_A (by omega), ts_37]
  have s36 : zA (tsS (tsS (hAn u (p + (gl A).2) b j) b 7 (nI j)) (b + 1) 2 (zA u 17 j)) 36 (b + 1) = 2 := ts_36
  have s37 : zA (tsS (tsS (hAn u (p + (gl A).2) b j) b 7 (nI j)) (b + 1) 2 (zA u 17 j)) 37 (b + 1) = zA u 17 j := ts_37
  revert hRH hFH c31 c38 t36 t37 s36 s37 hhalf
  generalize tsS (tsS (hAn u (p + (gl A).2) b j) b 7 (nI j)) (b + 1) 2 (zA u 17 j) = s2
  intro hhalf hRH hFH c31 c38 t36 t37 s36 s37
  rw [fM_n g3 (by omega) j] at s37
  obtain ⟨x, k2, e1, e2, e3, e4, e5⟩ := hB (j + 1) hi (zA τ 17 j) s2 (p + (gl A).2 + 2) (b + 1) (rep_fM hFH (rep_fM g3 rb)) hRH s36 s37 (by omega) (by omega)
  have hlB := (gn_len st np B).2 (p + (gl A).2 + 2)
  have hFx : fM lo hi (p + (gl A).2) b u x := fM_trans hFH e3 (by omega) (Nat.le_refl _) (by omega) (by omega)
  have x36 : zA x 36 b = 7 := (e3.2.2.2 36 b (Or.inl (by omega)) (Or.inr (by omega)) (Or.inl (by omega))).trans t36
  have x37 : zA x 37 b = nI j := (e3.2.2.2 37 b (Or.inl (by omega)) (Or.inr (by omega)) (Or.inl (by omega))).trans t37
  have x38 : zA x 38 j = nI (p + (gl A).2 + 1) := (e3.2.2.2 38 j (Or.inl (by omega)) (Or.inl (by omega)) (Or.inr (by omega))).trans c38
  have x31 : zA x 34 (p + (gl A).2) = 31 := (e3.2.2.2 34 (p + (gl A).2) (Or.inr (by omega)) (Or.inl (by omega)) (Or.inl (by omega))).trans c31
  have hend := fun m => endE (N := N) (m := m) (k := 7) (f := p + (gl A).2 + 1) e4 (by omega) (by omega) x36 x37 hj ((fM_n hFx (by omega) j).trans ((fM_n g3 (by omega) j).trans r15)) (Or.inl rfl) (by omega) (by rw [if_pos rfl]; exact x38)
  simp only [if_true] at hend
  have hFτ : fM lo hi p b τ x := fM_trans g3 hFx (Nat.le_refl _) (Nat.le_refl _) (by omega) (Nat.le_refl _)
  refine ⟨_, 1 + k2 + 1 + k + 1, fun m => ?_, by omega, eLn_fM (f := p + (gl A).2 + 1) (r := p + (gl A).2 + 2 + (gl B).2) (j := j) hFτ (by omega) (by omega) hlh, ?_, ?_⟩
  · rw [show m + (1 + k2 + 1 + k + 1) = (m + 1 + k2 + 1 + k) + 1 by omega, hbeg, g1, hhalf, e1, hend]
  · have := eLn_RM (f := p + (gl A).2 + 1) (b := b) (j := j) e4
    rw [hg, show p + ((gl A).2 + (2 + ((gl B).2 + 8))) = p + (gl A).2 + 2 + (gl B).2 + 8 by omega]
    exact this
  · rw [gn_N]
    show cd _ p ((gn st np A).2 p ++ ([31, nI (p + ((gn st np A).2 p).length + 2 + ((gn st np B).2 (p + ((gn st np A).2 p).length + 2)).length + 6)] ++ ((gn st np B).2 (p + ((gn st np A).2 p).length + 2) ++ [31, nI (p + ((gn st np A).2 p).length + 2 + ((gn st np B).2 (p + ((gn st np A).2 p).length + 2)).length + 6), 1, 1, 30, nI (p + ((gn st np A).2 p).length + 2 + ((gn st np B).2 (p + ((gn st np A).2 p).length + 2)).length + 8), 1, 0])))
    rw [hlA, hlB]
    refine cd_app (cd_frame (fun q q1 q2 => ?_) g5) ?_
    · rw [eLn_A (by omega), if_neg (by omega), if_pos (by omega)]
      exact hFx.2.2.2 34 q (Or.inr (by omega)) (Or.inl (by omega)) (Or.inl (by omega))
    · rw [hlA]
      refine cd_app (cd_cons ?_ (cd_cons ?_ cd_nil)) ?_
      · rw [eLn_A (by omega), if_neg (by omega), if_pos (by omega)]; exact x31
      · rw [eLn_A (by omega), if_pos rfl]
      · show cd _ (p + (gl A).2 + 2) _
        refine cd_app (cd_frame (fun q q1 q2 => ?_) e5) ?_
        · rw [hlB] at q2
          rw [eLn_A (by omega), if_neg (by omega), if_pos (by omega)]
        · rw [hlB]; exact eLn_cd (by omega)
theorem mkE8 {N : Nat} {G : gE} {st : Nat → Int32} {np : Int32} {v w : Int} {A B C : fT} (hA : MKp N G st np 2 A) (hB : MKp N G st np 2 B) : MKp N G st np 2 (fN 8 v w A B C) := by
  intro lo hi i τ p b hr hR h36 h37 hp hb
  rw [rep_N] at hr
  obtain ⟨j, rfl, hj, hlh, r15, r19, r20, ly⟩ := hr
  obtain ⟨ra, rb, rc⟩ := ly.2 (by omega)
  have hg : (gl (fN 8 v w A B C)).2 = (gl A).2 + (6 + ((gl B).2 + 8)) := by rw [gl_N]; rfl
  have hcn : cN (fN 8 v w A B C) = 1 + cN A + cN B + cN C := cN_N
  have hlA := (gn_len st np A).2 p
  have hbeg := fun m => begEL (N := N) (m := m) hR (by omega) h36 h37 hj (Or.inr r15)
  have hR1 : RM G st np (tsS (tsS (zsI τ 0 63 (nI b)) b 5 (nI j)) (b + 1) 2 (zA τ 16 j)) p (b + 2) := RM_ts (RM_ts (RM_63 hR))
  have hF1 : fM lo hi p b τ (tsS (tsS (zsI τ 0 63 (nI b)) b 5 (nI j)) (b + 1) 2 (zA τ 16 j)) := fM_ts (fM_ts (fM_63 fM_refl) (Nat.le_refl _)) (by omega)
  obtain ⟨u, k, g1, g2, g3, g3b, g4, g5, g6, g7⟩ := mk_half hA ra (Nat.le_refl _) (by omega) hF1 hR1 (by rw [ts_A (by omega), ts_36]) (by rw [ts_A (by omega), ts_37]) ts_36 ts_37 (by omega) (by omega)
  have hhalf := fun m => halfE (N := N) (m := m) (k := 8) g4 (by omega) (by omega) g6 g7 hj ((fM_n g3 (by omega) j).trans r15) (Or.inr rfl)
  simp only [Nat.reduceEqDiff, if_false] at hhalf
  have hRH : RM G st np (tsS (tsS (hOr u (p + (gl A).2) b j) b 7 (nI j)) (b + 1) 2 (zA u 17 j)) (p + (gl A).2 + 6) (b + 2) := by unfold hOr hAn; exact RM_ts (RM_ts (RM_A (RM_A (RM_pt (RM_pt (RM_pt (RM_pt (RM_A (RM_pt (RM_pt (RM_63 g4))) (by omega)))))) (by omega)) (by omega)))
  have hFH : fM lo hi (p + (gl A).2) b u (tsS (tsS (hOr u (p + (gl A).2) b j) b 7 (nI j)) (b + 1) 2 (zA u 17 j)) := by unfold hOr hAn; exact fM_ts (fM_ts (fM_A (fM_A (fM_pt (fM_pt (fM_pt (fM_pt (fM_A (fM_pt (fM_pt (fM_63 fM_refl) (Nat.le_refl _)) (by omega)) (by omega)) (by omega)) (by omega)) (by omega)) (by omega)) (by omega)) (by omega)) (Nat.le_refl _)) (by omega)
  have c31 : cd (tsS (tsS (hOr u (p + (gl A).2) b j) b 7 (nI j)) (b + 1) 2 (zA u 17 j)) (p + (gl A).2) [31, nI (p + (gl A).2 + 6), 1, 1, 30] := by
    unfold hOr hAn
    refine cd_cons ?_ (cd_cons ?_ (cd_cons ?_ (cd_cons ?_ (cd_cons ?_ cd_nil)))) <;> (repeat (first | rw [pt_34] | rw [zA_A, if_pos ⟨rfl, rfl⟩] | rw [pt_A (by omega)] | rw [zA_A, if_neg (by omega)] | rw [ts_A (by omega)] | rw [zA_I]))
  have c38 : zA (tsS (tsS (hOr u (p + (gl A).2) b j) b 7 (nI j)) (b + 1) 2 (zA u 17 j)) 40 j = nI (p + (gl A).2 + 5) := by unfold hOr; (repeat (first | rw [pt_34] | rw [zA_A, if_pos ⟨rfl, rfl⟩] | rw [pt_A (by omega)] | rw [zA_A, if_neg (by omega)] | rw [ts_A (by omega)] | rw [zA_I]))
  have t36 : zA (tsS (tsS (hOr u (p + (gl A).2) b j) b 7 (nI j)) (b + 1) 2 (zA u 17 j)) 36 b = 7 := by rw [ts_A (by omega), ts_36]
  have t37 : zA (tsS (tsS (hOr u (p + (gl A).2) b j) b 7 (nI j)) (b + 1) 2 (zA u 17 j)) 37 b = nI j := by rw [ts_A (by omega), ts_37]
  have s36 : zA (tsS (tsS (hOr u (p + (gl A).2) b j) b 7 (nI j)) (b + 1) 2 (zA u 17 j)) 36 (b + 1) = 2 := ts_36
  have s37 : zA (tsS (tsS (hOr u (p + (gl A).2) b j) b 7 (nI j)) (b + 1) 2 (zA u 17 j)) 37 (b + 1) = zA u 17 j := ts_37
  revert hRH hFH c31 c38 t36 t37 s36 s37 hhalf
  generalize tsS (tsS (hOr u (p + (gl A).2) b j) b 7 (nI j)) (b + 1) 2 (zA u 17 j) = s2
  intro hhalf hRH hFH c31 c38 t36 t37 s36 s37
  rw [fM_n g3 (by omega) j] at s37
  obtain ⟨x, k2, e1, e2, e3, e4, e5⟩ := hB (j + 1) hi (zA τ 17 j) s2 (p + (gl A).2 + 6) (b + 1) (rep_fM hFH (rep_fM g3 rb)) hRH s36 s37 (by omega) (by omega)
  have hlB := (gn_len st np B).2 (p + (gl A).2 + 6)
  have hFx : fM lo hi (p + (gl A).2) b u x := fM_trans hFH e3 (by omega) (Nat.le_refl _) (by omega) (by omega)
  have x36 : zA x 36 b = 7 := (e3.2.2.2 36 b (Or.inl (by omega)) (Or.inr (by omega)) (Or.inl (by omega))).trans t36
  have x37 : zA x 37 b = nI j := (e3.2.2.2 37 b (Or.inl (by omega)) (Or.inr (by omega)) (Or.inl (by omega))).trans t37
  have x38 : zA x 40 j = nI (p + (gl A).2 + 5) := (e3.2.2.2 40 j (Or.inl (by omega)) (Or.inl (by omega)) (Or.inr (by omega))).trans c38
  have x31 : cd x (p + (gl A).2) [31, nI (p + (gl A).2 + 6), 1, 1, 30] := cd_frame (fun q q1 q2 => e3.2.2.2 34 q (Or.inr (by simp only [List.length_cons, List.length_nil] at q2; omega)) (Or.inl (by omega)) (Or.inl (by omega))) c31
  have hend := fun m => endE (N := N) (m := m) (k := 8) (f := p + (gl A).2 + 5) e4 (by omega) (by omega) x36 x37 hj ((fM_n hFx (by omega) j).trans ((fM_n g3 (by omega) j).trans r15)) (Or.inr rfl) (by omega) (by rw [if_neg (by decide)]; exact x38)
  simp only [Nat.reduceEqDiff, if_false] at hend
  have hFτ : fM lo hi p b τ x := fM_trans g3 hFx (Nat.le_refl _) (Nat.le_refl _) (by omega) (Nat.le_refl _)
  refine ⟨_, 1 + k2 + 1 + k + 1, fun m => ?_, by omega, eLo_fM (f := p + (gl A).2 + 5) (r := p + (gl A).2 + 6 + (gl B).2) (j := j) hFτ (by omega) (by omega) hlh, ?_, ?_⟩
  · rw [show m + (1 + k2 + 1 + k + 1) = (m + 1 + k2 + 1 + k) + 1 by omega, hbeg, g1, hhalf, e1, hend]
  · have := eLo_RM (f := p + (gl A).2 + 5) (b := b) (j := j) e4
    rw [hg, show p + ((gl A).2 + (6 + ((gl B).2 + 8))) = p + (gl A).2 + 6 + (gl B).2 + 8 by omega]
    exact this
  · rw [gn_N]
    show cd _ p ((gn st np A).2 p ++ ([31, nI (p + ((gn st np A).2 p).length + 6), 1, 1, 30, nI (p + ((gn st np A).2 p).length + 6 + ((gn st np B).2 (p + ((gn st np A).2 p).length + 6)).length + 8)] ++ ((gn st np B).2 (p + ((gn st np A).2 p).length + 6) ++ [31, nI (p + ((gn st np A).2 p).length + 6 + ((gn st np B).2 (p + ((gn st np A).2 p).length + 6)).length + 6), 1, 1, 30, nI (p + ((gn st np A).2 p).length + 6 + ((gn st np B).2 (p + ((gn st np A).2 p).length + 6)).length + 8), 1, 0])))
    rw [hlA, hlB]
    refine cd_app (cd_frame (fun q q1 q2 => ?_) g5) ?_
    · rw [eLo_A (by omega), if_neg (by omega), if_pos (by omega)]
      exact hFx.2.2.2 34 q (Or.inr (by omega)) (Or.inl (by omega)) (Or.inl (by omega))
    · rw [hlA]
      refine cd_app ?_ ?_
      · refine cd_app (l := [31, nI (p + (gl A).2 + 6), 1, 1, 30]) (r := [nI (p + (gl A).2 + 6 + (gl B).2 + 8)]) (cd_frame (fun q q1 q2 => ?_) x31) (cd_cons ?_ cd_nil)
        · simp only [List.length_cons, List.length_nil] at q2
          rw [eLo_A (by omega), if_neg (by omega), if_pos (by omega)]
        · show zA _ 34 (p + (gl A).2 + 5) = _
          rw [eLo_A (by omega), if_pos rfl]
      · show cd _ (p + (gl A).2 + 6) _
        refine cd_app (cd_frame (fun q q1 q2 => ?_) e5) ?_
        · rw [hlB] at q2
          rw [eLo_A (by omega), if_neg (by omega), if_pos (by omega)]
        · rw [hlB]; exact eLo_cd (by omega)
