/-! BOTH: what a call that leaves machine and text by itself alone keeps -/
def frC (c : Nat) (σ σ' : zSt) : Prop := (∀ o k, (o = 7 ∨ o = 8 ∨ o = c ∨ o = c + 2 ∨ o = c + 4 ∨ (o = 6 ∧ k = 3)) → zI σ' o k = zI σ o k) ∧ (∀ o k, (o = 0 ∨ o = 7 ∨ o = 8) → zR σ' o k = zR σ o k) ∧ (∀ a i, ((26 ≤ a ∧ a ≤ 32) ∨ (6 * c - 21 ≤ a ∧ a ≤ 6 * c - 16) ∨ a = c + 36) → zA σ' a i = zA σ a i)
def frT (τ τ' : zSt) : Prop := (∀ j, (j = 6 ∨ j = 12 ∨ 70 ≤ j) → zI τ' 0 j = zI τ 0 j) ∧ (∀ a i, (a = 2 ∨ a = 3 ∨ 41 ≤ a) → zA τ' a i = zA τ a i)
section
variable {ln : Nat → Nat} {tx tc cc mc io c m nk : Nat} {P : yP} {xk : Nat → Int32} {σ τ σ' τ' : zSt}
theorem PCv_g {q : Nat} {E : yP} {z : zSt} (hq : q = 9 ∨ q = 10) (h : PCv ln E q P σ) (h2 : zI z q 2 = zI σ q 2) (h3 : zI z q 3 = zI σ q 3) (ha : ∀ a i, ((6 * q - 21 ≤ a ∧ a ≤ 6 * q - 16) ∨ a = q + 36) → zA z a i = zA σ a i) : PCv ln E q P z := by
  obtain ⟨p1, p2, p3, p4, p5⟩ := h
  refine ⟨h2.trans p1, h3.trans p2, cdC_keep p3 (fun i _ _ => ha _ _ (by omega)), cdC_keep p4 (fun i _ _ => ha _ _ (by omega)), fun g hg hk => ?_⟩
  obtain ⟨m, A, r, h1, h2, h3, h4, h5, h6, h7, h8, h9⟩ := p5 g hg hk
  exact ⟨m, A, r, h1, h2, h3, (ha _ _ (by omega)).trans h4, (ha _ _ (by omega)).trans h5, (ha _ _ (by omega)).trans h6, (ha _ _ (by omega)).trans h7, (ha _ _ (by omega)).trans h8, (crp_frame (fnd' := fun g => nI (nst E g)) hq A).1 _ _ _ (fun a m a1 a2 _ _ => ha a m (by omega)) h9⟩
theorem cp_g {np : Nat} {t : fT} {j : Int32} (hc : c = 9 ∨ c = 10) (h : ∀ a i, 6 * c - 21 ≤ a → a ≤ 6 * c - 16 → zA σ' a i = zA σ a i) (hr : cp P c σ np t j) : cp P c σ' np t j := by
  obtain ⟨lo, hi, hh, hr⟩ := hr
  exact ⟨lo, hi, hh, (crp_frame (fnd' := fun g => nI (nst P g)) hc t).1 lo hi j (fun a m a1 a2 _ _ => h a m a1 a2) hr⟩
theorem okW_3 : ∀ (I : List aI) (md n : Nat) (F : List Nat), okW P I md n F → ∀ a, a ∈ I → a.1 = 3 → isF P a.2.2 := by
  intro I
  induction I with
  | nil => intro md n F h a ha; cases ha
  | cons b I ih =>
    intro md n F h a ha h3
    rcases List.mem_cons.mp ha with e | ha
    · subst e
      rcases h with h | h | h
      · omega
      · omega
      · obtain ⟨g, F', -, hg, h⟩ := h
        rcases h with h | h | h | h | h | h | h | h | h
        · omega
        · omega
        · omega
        · omega
        · omega
        · omega
        · omega
        · rw [h.2.2.1]; exact hg
        · omega
    · rcases h with h | h | h
      · exact ih _ _ _ h.2.2.2.2 a ha h3
      · obtain ⟨-, -, F', rfl, h⟩ := h
        exact ih _ _ _ h a ha h3
      · obtain ⟨g, F', -, -, h⟩ := h
        rcases h with h | h | h | h | h | h | h | h | h
        · exact ih _ _ _ h.2.2.2 a ha h3
        · obtain ⟨-, -, -, k, v, w, A, B, D, -, h | h⟩ := h
          · exact ih _ _ _ h.2.2 a ha h3
          · exact ih _ _ _ h.2.2 a ha h3
        · exact ih _ _ _ h.2.2.2.2.2 a ha h3
        · exact ih _ _ _ h.2.2.2 a ha h3
        · obtain ⟨-, -, -, k, v, w, A, B, D, -, h | h⟩ := h
          · exact ih _ _ _ h.2.2 a ha h3
          · exact ih _ _ _ h.2.2 a ha h3
        · exact ih _ _ _ h.2.2.2 a ha h3
        · exact ih _ _ _ h.2.2.2 a ha h3
        · exact ih _ _ _ h.2.2.2 a ha h3
        · exact ih _ _ _ h.2.2.2.2 a ha h3
theorem slI_g {np p : Nat} {a : aI} (hc : c = 9 ∨ c = 10) (hA : ∀ a i, 6 * c - 21 ≤ a → a ≤ 6 * c - 16 → zA σ' a i = zA σ a i) (h1 : zA σ' 28 p = zA σ 28 p) (h2 : zA σ' 29 p = zA σ 29 p) (h3 : zA τ' 44 p = zA τ 44 p) (h4 : zA τ' 45 p = zA τ 45 p) (hp : PM P τ) (hp' : PM P τ') (hf : a.1 = 3 → isF P a.2.2) (h : slI P m c σ τ np a p) : slI P m c σ' τ' np a p := by
  unfold slI at h ⊢
  rw [h1, h2, h3, h4]
  by_cases c0 : a.1 = 0
  · rw [if_pos c0] at h ⊢
    obtain ⟨x1, x2, x3, x4⟩ := h
    refine ⟨x1, x2, x3, ?_⟩
    rcases x4 with x | ⟨k, k1, k2, k3, k4⟩
    · exact Or.inl x
    · exact Or.inr ⟨k, k1, k2, k4 τ' hp', k4⟩
  rw [if_neg c0] at h ⊢
  by_cases c3 : a.1 = 3
  · rw [if_pos c3] at h ⊢
    obtain ⟨g1, g2⟩ := hf c3
    refine ⟨h.1, h.2.1.trans ?_, h.2.2⟩
    exact rep_det _ _ _ _ _ _ (hp.2.2 _ g1 g2).1 (hp'.2.2 _ g1 g2).1
  rw [if_neg c3] at h ⊢
  by_cases c6 : a.1 = 6
  · rw [if_pos c6] at h ⊢; exact h
  rw [if_neg c6] at h ⊢
  by_cases c7 : a.1 = 7
  · rw [if_pos c7] at h ⊢; exact h
  rw [if_neg c7] at h ⊢
  by_cases c10 : a.1 = 10
  · rw [if_pos c10] at h ⊢; exact h
  rw [if_neg c10] at h ⊢
  obtain ⟨lo, hi, r1, r2⟩ := h.2.2.1
  exact ⟨h.1, h.2.1, ⟨lo, hi, r2 τ' hp', r2⟩, cp_g hc hA h.2.2.2⟩
theorem itR_g (hc : c = 9 ∨ c = 10) (hA : ∀ a i, 6 * c - 21 ≤ a → a ≤ 6 * c - 16 → zA σ' a i = zA σ a i) (hp : PM P τ) (hp' : PM P τ') (hs : ∀ p, zA σ' 28 p = zA σ 28 p ∧ zA σ' 29 p = zA σ 29 p ∧ zA τ' 44 p = zA τ 44 p ∧ zA τ' 45 p = zA τ 45 p) : ∀ (I : List aI) (F : List Nat), (∀ a, a ∈ I → a.1 = 3 → isF P a.2.2) → itR P m c σ τ I F → itR P m c σ' τ' I F := by
  intro I
  induction I with
  | nil => intro F _ _; trivial
  | cons a I ih =>
    intro F hf h
    obtain ⟨x1, x2, x3, x4⟩ := hs I.length
    exact ⟨slI_g hc hA x1 x2 x3 x4 hp hp' (hf a (List.mem_cons_self ..)) h.1, ih _ (fun b hb => hf b (List.mem_cons_of_mem _ hb)) h.2⟩
theorem WR_g (hc : c = 9 ∨ c = 10) (f1 : frC c σ σ') (f2 : frT τ τ') (hp : PM P τ) (hp' : PM P τ') (hT : TPr io σ' τ') (hA : TAt σ τ → TAt σ' τ') (h : WR P m c mc io σ τ) : WR P m c mc io σ' τ' := by
  obtain ⟨x1, x2, x3, x4⟩ := h
  have XCk : ∀ {gs n k fc e : Nat} {vl lc gb : Nat → Int32}, XC gs vl lc gb n k fc e σ → XC gs vl lc gb n k fc e σ' := fun h => by
    obtain ⟨h1, h2, h3, h4, h5, h6, h7, h8⟩ := h
    exact ⟨(f1.1 _ _ (by omega)).trans h1, (f1.1 _ _ (by omega)).trans h2, (f1.1 _ _ (by omega)).trans h3, (f1.1 _ _ (by omega)).trans h4, fun i hi => (f1.2.2 _ _ (by omega)).trans (h5 i hi), fun i hi => (f1.2.2 _ _ (by omega)).trans (h6 i hi), fun i hi => (f1.2.2 _ _ (by omega)).trans (h7 i hi), (f1.1 _ _ (by omega)).trans h8⟩
  refine ⟨hT, by rw [f1.1 8 14 (by omega), x2, f2.1 75 (by omega)], fun h0 => ?_, by rw [f2.1 76 (by omega), f2.1 75 (by omega), f1.1 8 15 (by omega)]; exact x4⟩
  rw [f2.1 75 (by omega)] at h0
  rcases x3 h0 with ⟨hg, vl, lc, gb, n, e, a, I, Fr, md, ⟨w1, w2, w3, w4, w5, w6⟩, ho, hb⟩ | ⟨hg, vl, lc, gb, X, h28, h29⟩
  · refine Or.inl ⟨hg, vl, lc, gb, n, e, a, I, Fr, md, ⟨XCk w1, ?_, itR_g (σ := σ) (τ := τ) hc (fun a i a1 a2 => f1.2.2 a i (by omega)) hp hp' (fun p => ⟨f1.2.2 _ _ (by omega), f1.2.2 _ _ (by omega), f2.2 _ _ (by omega), f2.2 _ _ (by omega)⟩) (a :: I) _ (okW_3 _ _ _ _ ho) w3, frR_f (σ := σ) (τ := τ) Fr e (fun p hp => ⟨f2.2 _ _ (by omega), f2.2 _ _ (by omega), f1.2.2 _ _ (by omega)⟩) w4, hT, hA w6⟩, ho, hb⟩
    obtain ⟨h1, h2, h3, h4, h5, h6, h7, h8⟩ := w2
    exact ⟨(f2.1 _ (by omega)).trans h1, (f2.1 _ (by omega)).trans h2, (f2.1 _ (by omega)).trans h3, (f2.1 _ (by omega)).trans h4, fun i hi => (f2.2 _ _ (by omega)).trans (h5 i hi), fun i hi => (f2.2 _ _ (by omega)).trans (h6 i hi), fun i hi => (f2.2 _ _ (by omega)).trans (h7 i hi), (f2.1 _ (by omega)).trans h8⟩
  · exact Or.inr ⟨hg, vl, lc, gb, XCk X, (f1.2.2 _ _ (by omega)).trans h28, (f1.2.2 _ _ (by omega)).trans h29⟩
theorem MR_g (f1 : frC c σ σ') (f2 : frT τ τ') (hT : TPr io σ' τ') (hA : TAt σ τ → TAt σ' τ') (h : MR mc io P σ τ) : MR mc io P σ' τ' := by
  obtain ⟨x1, x2, x3, x4⟩ := h
  refine ⟨hT, by rw [f1.1 7 6 (by omega), x2, f2.1 75 (by omega)], fun h0 => ?_, by rw [f2.1 76 (by omega), f2.1 75 (by omega), f1.1 7 7 (by omega)]; exact x4⟩
  rw [f2.1 75 (by omega)] at h0
  obtain ⟨go, g4⟩ := x3 h0
  refine ⟨?_, fun h => (f1.1 7 4 (by omega)).trans (g4 (by rw [← f1.1 7 7 (by omega)]; exact h))⟩
  rcases go with ⟨hg, ha, mem, pc, sp, fp, v, w, hs, hM⟩ | ⟨hg, h7⟩
  · exact Or.inl ⟨hg, hA ha, mem, pc, sp, fp, ⟨(f1.1 _ _ (by omega)).trans v.1, (f1.1 _ _ (by omega)).trans v.2.1, (f1.1 _ _ (by omega)).trans v.2.2.1, fun i hi => (f1.2.2 _ _ (by omega)).trans (v.2.2.2.1 i hi), (f1.1 _ _ (by omega)).trans v.2.2.2.2⟩, ⟨(f2.1 _ (by omega)).trans w.1, (f2.1 _ (by omega)).trans w.2.1, (f2.1 _ (by omega)).trans w.2.2.1, fun i hi => (f2.2 _ _ (by omega)).trans (w.2.2.2.1 i hi), (f2.1 _ (by omega)).trans w.2.2.2.2⟩, hs, hM⟩
  · exact Or.inr ⟨hg, (f1.1 7 7 (by omega)).trans h7⟩
theorem RMW_g (hc : c = 9 ∨ c = 10) (f1 : frC c σ σ') (f2 : frT τ τ') (hp : PM P τ) (hp' : PM P τ') (hT : TPr io σ' τ') (hA : TAt σ τ → TAt σ' τ') (h : RMW P m c mc io σ τ) : RMW P m c mc io σ' τ' := by
  rcases h with ⟨h1, h2⟩ | ⟨h1, h2, h3⟩ | ⟨h1, h2, h3⟩
  · exact Or.inl ⟨MR_g f1 f2 hT hA h1, WR_g hc f1 f2 hp hp' hT hA h2⟩
  · exact Or.inr (Or.inl ⟨MR_g f1 f2 hT hA h1, (f2.1 _ (by omega)).trans h2, (f1.1 _ _ (by omega)).trans h3⟩)
  · exact Or.inr (Or.inr ⟨WR_g hc f1 f2 hp hp' hT hA h1, (f2.1 _ (by omega)).trans h2, (f1.1 _ _ (by omega)).trans h3⟩)
theorem RC_g (hc : c = 9 ∨ c = 10) (f1 : frC c σ σ') (f2 : frT τ τ') (hG : PG P τ') (h : RC ln tc cc c P m xk nk σ τ) : RC ln tc cc c P m xk nk σ' τ' := by
  obtain ⟨h1, h2, h3, h4, h5, h6, h7, h8, h9, h10, h11, h12, h13, h14, h15⟩ := h
  exact ⟨(f2.1 _ (by omega)).trans h1, (f1.1 _ _ (by omega)).trans h2, ⟨(f2.1 _ (by omega)).trans h3.1, h3.2.1, fun j hj => (f2.2 _ _ (by omega)).trans (h3.2.2.1 j hj), h3.2.2.2⟩, hG, h5, PCv_g hc h6 (f1.1 _ _ (by omega)) (f1.1 _ _ (by omega)) (fun a i ha => f1.2.2 a i (by omega)), (f1.1 _ _ (by omega)).trans h7, h8, (f1.1 _ _ (by omega)).trans h9, h10, (f2.1 _ (by omega)).trans h11, fun j w hj => (f2.2 _ _ (by omega)).trans (h12 j w hj), (f1.2.1 _ _ (by omega)).trans h13, (f1.2.1 _ _ (by omega)).trans h14, (f1.1 _ _ (by omega)).trans h15⟩
end
