/-! THE CLASS: compile(), whole -/
theorem PCv_k {ln : Nat → Nat} {q : Nat} {E P : yP} {σ z : zSt} (hq : q = 9 ∨ q = 10) (h : PCv ln E q P σ) (h2 : zI z q 2 = zI σ q 2) (h3 : zI z q 3 = zI σ q 3) (ha : ∀ a i, 33 ≤ a → a ≤ 46 → zA z a i = zA σ a i) : PCv ln E q P z := by
  obtain ⟨p1, p2, p3, p4, p5⟩ := h
  refine ⟨h2.trans p1, h3.trans p2, cdC_keep p3 (fun i _ _ => ha _ _ (by omega) (by omega)), cdC_keep p4 (fun i _ _ => ha _ _ (by omega) (by omega)), fun g hg hk => ?_⟩
  obtain ⟨m, A, r, h1, h2, h3, h4, h5, h6, h7, h8, h9⟩ := p5 g hg hk
  exact ⟨m, A, r, h1, h2, h3, (ha _ _ (by omega) (by omega)).trans h4, (ha _ _ (by omega) (by omega)).trans h5, (ha _ _ (by omega) (by omega)).trans h6, (ha _ _ (by omega) (by omega)).trans h7, (ha _ _ (by omega) (by omega)).trans h8, (crp_frame (fnd' := fun g => nI (nst E g)) hq A).1 _ _ _ (fun a m _ _ _ _ => ha a m (by omega) (by omega)) h9⟩
theorem yAll_ne {x : Nat → Int32} {n tc cc : Nat} {e : Int32} (hn : n ≤ 4096) (h : yAll x n tc cc = .error e) : e ≠ 0 := by
  unfold yAll at h
  have := yRead_ok (x := x) (n := n) (tc := tc) hn
  cases hr : yRead x n tc with
  | error e' =>
    rw [hr] at h this
    cases h
    exact this
  | ok P =>
    rw [hr, xb_k] at h
    by_cases c : P.2.2.1 ≤ cc
    · rw [if_pos c] at h; cases h
    · rw [if_neg c] at h
      unfold er at h
      cases h
      exact er_ne ⟨10, by omega, by omega, rfl⟩ hn
def fCC (τ u : zSt) : Prop := zI u 1 1 = zI τ 1 1 ∧ zI u 3 2 = zI τ 3 2 ∧ zI u 6 2 = zI τ 6 2 ∧ zI u 8 0 = zI τ 8 0 ∧ (∀ a i, a = 15 ∨ a = 24 ∨ a = 25 → zA u a i = zA τ a i)
/-- what comes of the class's compile(): c held the program, q the spare one -/
def CCq (ln : Nat → Nat) (mc tc cc n : Nat) (x : Nat → Int32) (c q : Nat) (σ : zSt) (r : Int32) (z : zSt) : Prop := (∀ e, yAll x n tc cc = .error e → r = e ∧ fRR q σ z) ∧
  (∀ P, yAll x n tc cc = .ok P → r = 0 ∧ zR z 0 5 = q + 1 ∧ zR z 0 6 = c + 1 ∧ PCv ln P q P z ∧ zI z q 4 = 1 ∧ zI z (q + 2) 6 = nI (nst P P.1.2.2.2.2) ∧ zI z (q + 4) 1 = nI P.2.2.1 ∧ BGg mc q z ∧ fCC σ z ∧ nst P P.1.2.2.2.2 ≤ ln 15)
theorem compC {ln : Nat → Nat} {N M mc io tc cc n c q : Nat} {x : Nat → Int32} {σ : zSt} (hL : LN ln q cc) (hl : LM ln mc io) (hn : n ≤ 512) (hN : 5000 ≤ N) (hM : 43 ≤ M) (hs : srcC x n ln σ) (h32 : zI σ 3 2 = nI tc) (htc : tc ≤ 4096) (h5 : zR σ 0 5 = c + 1) (h6 : zR σ 0 6 = q + 1) (hc : c = 9 ∨ c = 10) : wp (fX11_compile ln N M σ) (fun r z => CCq ln mc tc cc n x c q σ r z) := by
  have hq := hL.1
  unfold fX11_compile
  rw [rbP hq h6]
  refine wp_obd (wp_mono (readAllC hL hn hN hM hs h32 htc) (fun r z hz => ?_))
  obtain ⟨z1, z2, z3⟩ := hz
  cases hy : yAll x n tc cc with
  | error e =>
    have he := yAll_ne (by omega) hy
    have hr := z2 e hy
    rw [if_neg (by rw [hr]; exact he)]
    refine wp_s ⟨fun e' h' => ?_, fun P h' => by rw [hy] at h'; cases h'⟩
    rw [hy] at h'
    cases h'
    exact ⟨hr, z1⟩
  | ok P =>
    obtain ⟨p0, p1, p2, p3, p4, p5⟩ := z3 P hy
    rw [if_pos p0, rbP hq ((z1.2.2.1 0 6 (by omega) (by omega)).trans h6), rbP hc ((z1.2.2.1 0 5 (by omega) (by omega)).trans h5), bnd_e, bnd_e]
    have r5 : zR (zsR (zsR z 0 6 (c + 1)) 0 5 (q + 1)) 0 5 = q + 1 := by rw [zR_R, if_pos ⟨rfl, rfl⟩]
    have r6 : zR (zsR (zsR z 0 6 (c + 1)) 0 5 (q + 1)) 0 6 = c + 1 := by rw [zR_R, if_neg (by omega), zR_R, if_pos ⟨rfl, rfl⟩]
    have rI : ∀ o k, zI (zsR (zsR z 0 6 (c + 1)) 0 5 (q + 1)) o k = zI z o k := fun o k => rfl
    have rA : ∀ a i, zA (zsR (zsR z 0 6 (c + 1)) 0 5 (q + 1)) a i = zA z a i := fun a i => rfl
    revert r5 r6 rI rA
    generalize zsR (zsR z 0 6 (c + 1)) 0 5 (q + 1) = u
    intro r5 r6 rI rA
    refine wp_obd (wp_mono (agnC hl hN hq r5) (fun _ w hw => ?_))
    obtain ⟨f, g⟩ := hw
    have fI : ∀ o k, o ≠ 6 → o ≠ 7 → o ≠ 8 → zI w o k = zI z o k := fun o k a b c => (f.1 o k (by omega) (by omega) (by omega)).trans (rI o k)
    refine wp_s ⟨fun e h' => (by rw [hy] at h'; cases h'), fun P' h' => ?_⟩
    rw [hy] at h'
    cases h'
    refine ⟨rfl, (f.2.2.1 0 5 (by omega) (by omega)).trans r5, (f.2.2.1 0 6 (by omega) (by omega)).trans r6, ?_, (fI _ _ (by omega) (by omega) (by omega)).trans p2, (fI _ _ (by omega) (by omega) (by omega)).trans p3, (fI _ _ (by omega) (by omega) (by omega)).trans p4, g, ⟨?_, ?_, ?_, ?_, ?_⟩, p5.2⟩
    · exact PCv_k hq p1 (fI _ _ (by omega) (by omega) (by omega)) (fI _ _ (by omega) (by omega) (by omega)) (fun a i a1 a2 => (f.2.2.2.1 a i (by omega) (by omega) (by omega) (by omega)).trans (rA a i))
    · exact (fI _ _ (by omega) (by omega) (by omega)).trans (z1.1 1 1 (by unfold okI; omega))
    · exact (fI _ _ (by omega) (by omega) (by omega)).trans (z1.1 3 2 (by unfold okI; omega))
    · exact (f.1 6 2 (by omega) (by omega) (by omega)).trans ((rI 6 2).trans (z1.1 6 2 (by unfold okI; omega)))
    · exact (f.1 8 0 (by omega) (by omega) (by omega)).trans ((rI 8 0).trans (z1.1 8 0 (by unfold okI; omega)))
    · intro a i ha
      exact (f.2.2.2.1 a i (by omega) (by omega) (by omega) (by omega)).trans ((rA a i).trans (z1.2.2.2.1 a i (by unfold okA; omega)))
