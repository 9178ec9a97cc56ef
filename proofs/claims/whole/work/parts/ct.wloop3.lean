/-! THE TEXT BY ITSELF: interpret() of both -/
def jWC (τ u : zSt) : Prop := (∀ o k, ¬ (o = 8 ∧ 10 ≤ k) → ¬ (o = 6 ∧ (k = 3 ∨ k = 4)) → zI u o k = zI τ o k) ∧ (∀ o k, zL u o k = zL τ o k) ∧ (∀ o k, zR u o k = zR τ o k) ∧ (∀ a i, a ≠ 25 → ¬ (27 ≤ a ∧ a ≤ 32) → zA u a i = zA τ a i) ∧ (∀ a i, zB u a i = zB τ a i)
def jWR (τ u : zSt) : Prop := (∀ j, ¬ (75 ≤ j) → j ≠ 12 → j ≠ 14 → zI u 0 j = zI τ 0 j) ∧ (∀ a i, a ≠ 5 → ¬ (42 ≤ a ∧ a ≤ 48) → zA u a i = zA τ a i) ∧ (∀ a i, zB u a i = zB τ a i)
theorem jWC_refl {τ : zSt} : jWC τ τ := ⟨fun _ _ _ _ => rfl, fun _ _ => rfl, fun _ _ => rfl, fun _ _ _ _ => rfl, fun _ _ => rfl⟩
theorem jWR_refl {τ : zSt} : jWR τ τ := ⟨fun _ _ _ _ => rfl, fun _ _ _ _ => rfl, fun _ _ => rfl⟩
theorem jWC_trans {τ u v : zSt} (h : jWC τ u) (h2 : jWC u v) : jWC τ v := ⟨fun o k a b => (h2.1 o k a b).trans (h.1 o k a b), fun o k => (h2.2.1 o k).trans (h.2.1 o k), fun o k => (h2.2.2.1 o k).trans (h.2.2.1 o k), fun a i c d => (h2.2.2.2.1 a i c d).trans (h.2.2.2.1 a i c d), fun a i => (h2.2.2.2.2 a i).trans (h.2.2.2.2 a i)⟩
theorem jWR_trans {τ u v : zSt} (h : jWR τ u) (h2 : jWR u v) : jWR τ v := ⟨fun j a b c => (h2.1 j a b c).trans (h.1 j a b c), fun a i c d => (h2.2.1 a i c d).trans (h.2.1 a i c d), fun a i => (h2.2.2 a i).trans (h.2.2 a i)⟩
theorem fWC_j {σ u : zSt} {v : Int32} (h : fWC (zsI σ 8 15 v) u) : jWC σ u := ⟨fun o k a b => (h.1 o k (by omega) b).trans (by rw [zI_I, if_neg (by omega)]), h.2.1, h.2.2.1, h.2.2.2.1, h.2.2.2.2⟩
theorem fWR_j {τ u : zSt} {v : Int32} (h : fWR (zsI τ 0 76 v) u) : jWR τ u := ⟨fun j a b c => (h.1 j (by omega) (by omega) (by omega) (by omega) (by omega) b c).trans (by rw [zI_I, if_neg (by omega)]), h.2.1, h.2.2⟩
/-- what the text by itself is, in both -/
def WR (P : yP) (m c mc io : Nat) (σ τ : zSt) : Prop := TPr io σ τ ∧ zI σ 8 14 = zI τ 0 75 ∧ (zI τ 0 75 = 0 → WGo P m c mc io σ τ) ∧ ((zI τ 0 76 = 0 ∧ zI σ 8 15 = 0 ∧ zI τ 0 75 = 0) ∨ (zI τ 0 76 = 2 ∧ zI σ 8 15 = 1))
section
variable {ln : Nat → Nat} {N M mc io c m : Nat} {P : yP} {σ τ : zSt}
theorem XC_15 {gs n k fc e : Nat} {vl lc gb : Nat → Int32} {v : Int32} (h : XC gs vl lc gb n k fc e σ) : XC gs vl lc gb n k fc e (zsI σ 8 15 v) := by
  obtain ⟨h1, h2, h3, h4, h5, h6, h7, h8⟩ := h
  exact ⟨by rw [zI_I, if_neg (by omega)]; exact h1, by rw [zI_I, if_neg (by omega)]; exact h2, by rw [zI_I, if_neg (by omega)]; exact h3, by rw [zI_I, if_neg (by omega)]; exact h4, h5, h6, h7, by rw [zI_I, if_neg (by omega)]; exact h8⟩
theorem XR_76 {gs n k fc e : Nat} {vl lc gb : Nat → Int32} {v : Int32} (h : XR gs vl lc gb n k fc e τ) : XR gs vl lc gb n k fc e (zsI τ 0 76 v) := by
  obtain ⟨h1, h2, h3, h4, h5, h6, h7, h8⟩ := h
  exact ⟨by rw [zI_I, if_neg (by omega)]; exact h1, by rw [zI_I, if_neg (by omega)]; exact h2, by rw [zI_I, if_neg (by omega)]; exact h3, by rw [zI_I, if_neg (by omega)]; exact h4, h5, h6, h7, by rw [zI_I, if_neg (by omega)]; exact h8⟩
theorem TPr_2 (h : TPr io σ τ) : TPr io (zsI σ 8 15 1) (zsI τ 0 76 2) := TPr_w (fun q hq => by rw [zI_I, if_neg (by omega)]) (fun q hq => by rw [zI_I, if_neg (by omega)]) (fun _ _ _ => rfl) (fun _ _ _ => rfl) h
theorem WGo_2 (hc : c = 9 ∨ c = 10) (h : WGo P m c mc io σ τ) : WGo P m c mc io (zsI σ 8 15 1) (zsI τ 0 76 2) := by
  rcases h with ⟨hg, vl, lc, gb, n, e, a, I, Fr, md, ⟨w1, w2, w3, w4, w5, w6⟩, ho, hb⟩ | ⟨hg, vl, lc, gb, X, h28, h29⟩
  · exact Or.inl ⟨hg, vl, lc, gb, n, e, a, I, Fr, md, ⟨XC_15 w1, XR_76 w2, itR_f (σ := σ) (τ := τ) (σ' := zsI σ 8 15 1) (τ' := zsI τ 0 76 2) hc ⟨fun _ _ _ _ => rfl, fun _ _ _ _ => rfl, fun _ => rfl⟩ (a :: I) _ (fun _ _ => ⟨rfl, rfl, rfl, rfl⟩) w3, frR_f (σ := σ) (τ := τ) (σ' := zsI σ 8 15 1) (τ' := zsI τ 0 76 2) Fr e (fun _ _ => ⟨rfl, rfl, rfl⟩) w4, TPr_2 w5, TAt_w (fun q hq => by rw [zI_I, if_neg (by omega)]) (by rw [zI_I, if_neg (by omega)]) w6⟩, ho, hb⟩
  · exact Or.inr ⟨hg, vl, lc, gb, XC_15 X, h28, h29⟩
theorem WEN_j {σ' τ' : zSt} (f1 : jWC σ σ') (f2 : jWR τ τ') (h : WEN ln mc io c P m σ τ) : WEN ln mc io c P m σ' τ' := by
  obtain ⟨h1, h2, h3, h4, h5, h6, h7, h8, h9, h10⟩ := h
  have hc := h2.1
  refine ⟨h1, ⟨h2.1, (f1.2.2.1 _ _).trans h2.2.1, (f1.1 _ _ (by omega) (by omega)).trans h2.2.2.1, h2.2.2.2⟩, (f2.1 8 (by omega) (by omega) (by omega)).trans h3, (f2.1 10 (by omega) (by omega) (by omega)).trans h4, (f2.1 29 (by omega) (by omega) (by omega)).trans h5, (f1.1 8 0 (by omega) (by omega)).trans h6, (f1.1 8 9 (by omega) (by omega)).trans h7, h8, ⟨(f2.1 22 (by omega) (by omega) (by omega)).trans h9.1, fun g hg => ?_, fun g hg hk => ?_⟩, fun g hg => fnR_f hc (fun a i a1 a2 => f1.2.2.2.1 a i (by omega) (by omega)) (h10 g hg)⟩
  · obtain ⟨a, b, d⟩ := h9.2.1 g hg
    exact ⟨(f2.2.2 7 g).trans a, (f2.2.1 8 g (by omega) (by omega)).trans b, (f2.2.1 10 g (by omega) (by omega)).trans d⟩
  · obtain ⟨a, b⟩ := h9.2.2 g hg hk
    rw [f2.2.1 11 g (by omega) (by omega)]
    exact ⟨rep_frame _ _ _ _ (fun j hj => ⟨hj, fun r r1 r2 => f2.2.1 r j (by omega) (by omega)⟩) a, (f2.2.1 12 g (by omega) (by omega)).trans b⟩
theorem loopW {a : Int32} (hN : 5000 ≤ N) : ∀ (r k f f' : Nat) (σ τ : zSt), a.toInt ≤ k + r → k + r < 2 ^ 31 → r < f → r < f' → WEN ln mc io c P m σ τ → WR P m c mc io σ τ → ∃ σ' τ', fX10_goOn_b2 ln N M f a (nI k) σ = some (zI τ' 0 75, σ') ∧ fX12_interpret_b22 N f' a (nI k) τ = some (zI τ' 0 75, τ') ∧ WR P m c mc io σ' τ' ∧ jWC σ σ' ∧ jWR τ τ' ∧ (zI σ 8 15 = 1 → zI σ' 8 15 = 1) := by
  intro r
  induction r with
  | zero =>
    intro k f f' σ τ ha hk hf hf' hE hR
    obtain ⟨f, rfl⟩ : ∃ g, f = g + 1 := ⟨f - 1, by omega⟩
    obtain ⟨f', rfl⟩ : ∃ g, f' = g + 1 := ⟨f' - 1, by omega⟩
    have h1 : a ≤ nI k := by rw [Int32.le_iff_toInt_le, nI_toInt (by omega)]; omega
    rw [fX10_goOn_b2, fX12_interpret_b22, if_pos h1, if_pos h1, hR.2.1]
    exact ⟨σ, τ, rfl, rfl, hR, jWC_refl, jWR_refl, fun h => h⟩
  | succ r ih =>
    intro k f f' σ τ ha hk hf hf' hE hR
    obtain ⟨f, rfl⟩ : ∃ g, f = g + 1 := ⟨f - 1, by omega⟩
    obtain ⟨f', rfl⟩ : ∃ g, f' = g + 1 := ⟨f' - 1, by omega⟩
    by_cases h1 : a ≤ nI k
    · rw [fX10_goOn_b2, fX12_interpret_b22, if_pos h1, if_pos h1, hR.2.1]
      exact ⟨σ, τ, rfl, rfl, hR, jWC_refl, jWR_refl, fun h => h⟩
    · by_cases h75 : zI τ 0 75 = 0
      · have hE2 : WEN ln mc io c P m (zsI σ 8 15 1) (zsI τ 0 76 2) := WEN_j (σ := σ) (τ := τ) ⟨fun o q a b => by rw [zI_I, if_neg (by omega)], fun _ _ => rfl, fun _ _ => rfl, fun _ _ _ _ => rfl, fun _ _ => rfl⟩ ⟨fun q a b c => by rw [zI_I, if_neg (by omega)], fun _ _ _ _ => rfl, fun _ _ => rfl⟩ hE
        obtain ⟨σ4, σ1, τ1, x1, x2, x3, x4, x5, x6, x7, x8⟩ := turnW (N := N) (M := M) hN hE2 (TPr_2 hR.1) (WGo_2 hE.2.1.1 (hR.2.2.1 h75))
        have g1 := fWC_j x4
        have g2 := fWR_j x5
        have hR1 : WR P m c mc io σ1 τ1 := ⟨x6, x7, x8, Or.inr ⟨by rw [x5.1 76 (by omega) (by omega) (by omega) (by omega) (by omega) (by omega) (by omega), zI_I, if_pos ⟨rfl, rfl⟩], by rw [x4.1 8 15 (by omega) (by omega), zI_I, if_pos ⟨rfl, rfl⟩]⟩⟩
        obtain ⟨σ2, τ2, y1, y2, y3, y4, y5, y6⟩ := ih (k + 1) f f' σ1 τ1 (by omega) (by omega) (by omega) (by omega) (WEN_j g1 g2 hE) hR1
        refine ⟨σ2, τ2, ?_, ?_, y3, jWC_trans g1 y4, jWR_trans g2 y5, fun _ => y6 (by rw [x4.1 8 15 (by omega) (by omega), zI_I, if_pos ⟨rfl, rfl⟩])⟩
        · rw [fX10_goOn_b2, if_neg h1, hR.2.1, h75, if_pos rfl, bnd_e, x1, obd_s]
          unfold fX10_goOn_b34
          by_cases c4 : zI σ4 8 14 = 0
          · rw [if_pos c4] at x2
            rw [if_pos c4, x2, obd_s, show nI k + (1 : Int32) = nI (k + 1) from nI_add _ 1, bnd_e]
            exact y1
          · rw [if_neg c4] at x2
            have e4 : σ4 = σ1 := congrArg Prod.snd (Option.some.inj x2)
            rw [if_neg c4, e4, show nI k + (1 : Int32) = nI (k + 1) from nI_add _ 1, bnd_e]
            exact y1
        · rw [fX12_interpret_b22, if_neg h1, if_pos h75, bnd_e, x3, obd_s, show nI k + (1 : Int32) = nI (k + 1) from nI_add _ 1, bnd_e]
          exact y2
      · rw [fX10_goOn_b2, fX12_interpret_b22, if_neg h1, if_neg h1, hR.2.1, if_neg h75, if_neg h75]
        exact ⟨σ, τ, rfl, rfl, hR, jWC_refl, jWR_refl, fun h => h⟩
theorem intW {a : Int32} (hN : 2 ^ 31 ≤ N) (hE : WEN ln mc io c P m σ τ) (hR : WR P m c mc io σ τ) (h71 : zI τ 0 71 ≠ 0) : ∃ v σ' τ', fX10_goOn ln N M a σ = some (v, σ') ∧ fX12_interpret N a τ = some (v, τ') ∧ WR P m c mc io σ' τ' ∧ jWC σ σ' ∧ jWR τ τ' ∧ (zI σ 8 15 = 1 → zI σ' 8 15 = 1) := by
  unfold fX10_goOn fX12_interpret
  have h76 : zI τ 0 76 ≠ 1 := by
    rcases hR.2.2.2 with e | e
    · rw [e.1]; decide
    · rw [e.1]; decide
  rw [bnd_e, if_neg h71, if_neg h76, bnd_e, show (0 : Int32) = nI 0 from rfl]
  have hb := Int32.toInt_lt a
  obtain ⟨σ', τ', y1, y2, y3, y4, y5⟩ := loopW (N := N) (M := M) (a := a) (by omega) (2 ^ 31 - 1) 0 N N σ τ (by omega) (by omega) (by omega) (by omega) hE hR
  exact ⟨_, σ', τ', y1, y2, y3, y4, y5⟩
end
