/-! BOTH: the small calls -/
section
variable {ln : Nat → Nat} {N M tx tc cc mc io k : Nat} {σ τ : zSt}
theorem Rel_feed {v : Int32} (h : Rel ln tx tc cc mc io k σ τ) : ∃ r σ' τ', fX11_feed ln N M v σ = some (r, σ') ∧ fX12_feed N v τ = some (r, τ') ∧ Rel ln tx tc cc mc io (k + 1) σ' τ' := by
  have h' := h
  obtain ⟨hS, ⟨n, x, t1, t2, t3, t4, t5⟩, hT, c, q, hcq, r5, r6, hx⟩ := h
  have hc : c = 9 ∨ c = 10 := by omega
  have hS' := hS
  obtain ⟨⟨l9, l10, hlm, l15, ltx, ltc, lcc⟩, s1, s2, s3, s4, s5, s6, s7⟩ := hS
  have g1 := feedC (N := N) (M := M) (x := x) v l15 ltx t3 ⟨t1, fun j hj => (t5 j hj).1⟩
  have g2 := feedR (N := N) (x := x) v ltx t3 ⟨s1, t2, fun j hj => (t5 j hj).2⟩
  by_cases e : n = tx
  · rw [if_pos e] at g1 g2
    exact ⟨_, _, _, g1, g2, Rel_up (by omega) h'⟩
  · rw [if_neg e] at g1 g2
    refine ⟨_, _, _, g1, g2, ?_⟩
    have i1 : zI (zsI (zsA σ 15 n v) 1 1 (nI (n + 1))) 1 1 = nI (n + 1) := by rw [zI_I, if_pos ⟨rfl, rfl⟩]
    have i2 : ∀ o j, ¬ (o = 1 ∧ j = 1) → zI (zsI (zsA σ 15 n v) 1 1 (nI (n + 1))) o j = zI σ o j := fun o j h => by rw [zI_I, if_neg h, zI_A]
    have i3 : ∀ o j, zR (zsI (zsA σ 15 n v) 1 1 (nI (n + 1))) o j = zR σ o j := fun o j => rfl
    have i4 : ∀ a i, a ≠ 15 → zA (zsI (zsA σ 15 n v) 1 1 (nI (n + 1))) a i = zA σ a i := fun a i h => by rw [zA_I, zA_A, if_neg (by omega)]
    have i5 : ∀ i, zA (zsI (zsA σ 15 n v) 1 1 (nI (n + 1))) 15 i = if i = n then v else zA σ 15 i := fun i => by
      rw [zA_I, zA_A]
      by_cases e : i = n
      · rw [if_pos ⟨rfl, e⟩, if_pos e]
      · rw [if_neg (by omega), if_neg e]
    have j1 : zI (zsI (zsA τ 1 n v) 0 2 (nI (n + 1))) 0 2 = nI (n + 1) := by rw [zI_I, if_pos ⟨rfl, rfl⟩]
    have j2 : ∀ j, j ≠ 2 → zI (zsI (zsA τ 1 n v) 0 2 (nI (n + 1))) 0 j = zI τ 0 j := fun j h => by rw [zI_I, if_neg (by omega), zI_A]
    have j4 : ∀ a i, a ≠ 1 → zA (zsI (zsA τ 1 n v) 0 2 (nI (n + 1))) a i = zA τ a i := fun a i h => by rw [zA_I, zA_A, if_neg (by omega)]
    have j5 : ∀ i, zA (zsI (zsA τ 1 n v) 0 2 (nI (n + 1))) 1 i = if i = n then v else zA τ 1 i := fun i => by
      rw [zA_I, zA_A]
      by_cases e : i = n
      · rw [if_pos ⟨rfl, e⟩, if_pos e]
      · rw [if_neg (by omega), if_neg e]
    have j6 : ∀ a i, zB (zsI (zsA τ 1 n v) 0 2 (nI (n + 1))) a i = zB τ a i := fun a i => rfl
    revert i1 i2 i3 i4 i5 j1 j2 j4 j5 j6
    generalize zsI (zsA σ 15 n v) 1 1 (nI (n + 1)) = z
    generalize zsI (zsA τ 1 n v) 0 2 (nI (n + 1)) = w
    intro i1 i2 i3 i4 i5 j1 j2 j4 j5 j6
    have hT' : TPr io z w := by
      obtain ⟨i, o, y1, y2, y3, y4, y5, y6, y7, y8⟩ := hT
      exact ⟨i, o, (i2 _ _ (by omega)).trans y1, (j2 _ (by omega)).trans y2, y3, (i2 _ _ (by omega)).trans y4, (j2 _ (by omega)).trans y5, y6, fun j hj => ((i4 _ _ (by omega)).trans (y7 j hj)).trans (j4 _ _ (by omega)).symm, fun j hj => ((i4 _ _ (by omega)).trans (y8 j hj)).trans (j4 _ _ (by omega)).symm⟩
    refine ⟨⟨⟨l9, l10, hlm, l15, ltx, ltc, lcc⟩, (j2 _ (by omega)).trans s1, (j2 _ (by omega)).trans s2, (i2 _ _ (by omega)).trans s3, (j2 _ (by omega)).trans s4, (j2 _ (by omega)).trans s5, (j2 _ (by omega)).trans s6, (i2 _ _ (by omega)).trans s7⟩, ⟨n + 1, fun i => if i = n then v else x i, i1, j1, by omega, by omega, fun j hj => ?_⟩, hT', c, q, hcq, (i3 _ _).trans r5, (i3 _ _).trans r6, ?_⟩
    · rw [i5, j5]
      show (if j = n then v else zA σ 15 j) = (if j = n then v else x j) ∧ (if j = n then v else zA τ 1 j) = (if j = n then v else x j)
      by_cases e : j = n
      · rw [if_pos e, if_pos e, if_pos e]; exact ⟨rfl, rfl⟩
      · rw [if_neg e, if_neg e, if_neg e]; exact t5 j (by omega)
    · rcases hx with ⟨n1, n2, n3, n4⟩ | ⟨P, m, xk, nk, hC, hM⟩
      · exact Or.inl ⟨(j2 _ (by omega)).trans n1, (i2 _ _ (by omega)).trans n2, (j2 _ (by omega)).trans n3, (i2 _ _ (by omega)).trans n4⟩
      · have F1 : frC c σ z := ⟨fun o j ho => i2 _ _ (by omega), fun o j ho => i3 o j, fun a i ha => i4 a i (by omega)⟩
        have F2 : frT τ w := ⟨fun j hj => j2 j (by omega), fun a i ha => j4 a i (by omega)⟩
        have hG : PG P w := PG_c hC.2.2.2.1 (j2 _ (by omega)) (j2 _ (by omega)) (fun i => j6 7 i) (fun a i a1 a2 => j4 a i (by omega))
        have hA : TAt σ τ → TAt z w := fun ⟨j, i, y1, y2, y3, y4⟩ => ⟨j, i, (i2 _ _ (by omega)).trans y1, (j2 _ (by omega)).trans y2, (i2 _ _ (by omega)).trans y3, y4⟩
        exact Or.inr ⟨P, m, xk, nk, RC_g hc F1 F2 hG hC, RMW_g hc F1 F2 hC.2.2.2.1.1 hG.1 hT' hA hM⟩
theorem Rel_input {v : Int32} (h : Rel ln tx tc cc mc io k σ τ) : ∃ r σ' τ', fX11_input ln N M v σ = some (r, σ') ∧ fX12_input N v τ = some (r, τ') ∧ Rel ln tx tc cc mc io k σ' τ' := by
  have h' := h
  obtain ⟨hS, ⟨n, x, t1, t2, t3, t4, t5⟩, hT, c, q, hcq, r5, r6, hx⟩ := h
  have hc : c = 9 ∨ c = 10 := by omega
  obtain ⟨⟨l9, l10, hlm, l15, ltx, ltc, lcc⟩, s1, s2, s3, s4, s5, s6, s7⟩ := hS
  have hio := hlm.2.2.2.2.2.2.2.2.2.2
  obtain ⟨i, o, y1, y2, y3, y4, y5, y6, y7, y8⟩ := hT
  have g1 := inputC (N := N) (M := M) v hlm.1 hio y3 y1
  have g2 := inputR (N := N) v hio y3 s6 y2
  by_cases e : i = io
  · rw [if_pos e] at g1 g2
    exact ⟨_, _, _, g1, g2, h'⟩
  · rw [if_neg e] at g1 g2
    refine ⟨_, _, _, g1, g2, ?_⟩
    have i1 : zI (zsI (zsA σ 24 i v) 6 2 (nI (i + 1))) 6 2 = nI (i + 1) := by rw [zI_I, if_pos ⟨rfl, rfl⟩]
    have i2 : ∀ o j, ¬ (o = 6 ∧ j = 2) → zI (zsI (zsA σ 24 i v) 6 2 (nI (i + 1))) o j = zI σ o j := fun o j h => by rw [zI_I, if_neg h, zI_A]
    have i3 : ∀ o j, zR (zsI (zsA σ 24 i v) 6 2 (nI (i + 1))) o j = zR σ o j := fun o j => rfl
    have i4 : ∀ a p, a ≠ 24 → zA (zsI (zsA σ 24 i v) 6 2 (nI (i + 1))) a p = zA σ a p := fun a p h => by rw [zA_I, zA_A, if_neg (by omega)]
    have i5 : ∀ p, zA (zsI (zsA σ 24 i v) 6 2 (nI (i + 1))) 24 p = if p = i then v else zA σ 24 p := fun p => by
      rw [zA_I, zA_A]
      by_cases e : p = i
      · rw [if_pos ⟨rfl, e⟩, if_pos e]
      · rw [if_neg (by omega), if_neg e]
    have j1 : zI (zsI (zsA τ 4 i v) 0 11 (nI (i + 1))) 0 11 = nI (i + 1) := by rw [zI_I, if_pos ⟨rfl, rfl⟩]
    have j2 : ∀ j, j ≠ 11 → zI (zsI (zsA τ 4 i v) 0 11 (nI (i + 1))) 0 j = zI τ 0 j := fun j h => by rw [zI_I, if_neg (by omega), zI_A]
    have j4 : ∀ a p, a ≠ 4 → zA (zsI (zsA τ 4 i v) 0 11 (nI (i + 1))) a p = zA τ a p := fun a p h => by rw [zA_I, zA_A, if_neg (by omega)]
    have j5 : ∀ p, zA (zsI (zsA τ 4 i v) 0 11 (nI (i + 1))) 4 p = if p = i then v else zA τ 4 p := fun p => by
      rw [zA_I, zA_A]
      by_cases e : p = i
      · rw [if_pos ⟨rfl, e⟩, if_pos e]
      · rw [if_neg (by omega), if_neg e]
    have j6 : ∀ a p, zB (zsI (zsA τ 4 i v) 0 11 (nI (i + 1))) a p = zB τ a p := fun a p => rfl
    revert i1 i2 i3 i4 i5 j1 j2 j4 j5 j6
    generalize zsI (zsA σ 24 i v) 6 2 (nI (i + 1)) = z
    generalize zsI (zsA τ 4 i v) 0 11 (nI (i + 1)) = w
    intro i1 i2 i3 i4 i5 j1 j2 j4 j5 j6
    have hT' : TPr io z w := ⟨i + 1, o, i1, j1, by omega, (i2 _ _ (by omega)).trans y4, (j2 _ (by omega)).trans y5, y6, fun j hj => (by
        rw [i5, j5]
        by_cases e : j = i
        · rw [if_pos e, if_pos e]
        · rw [if_neg e, if_neg e]; exact y7 j (by omega)), fun j hj => ((i4 _ _ (by omega)).trans (y8 j hj)).trans (j4 _ _ (by omega)).symm⟩
    refine ⟨⟨⟨l9, l10, hlm, l15, ltx, ltc, lcc⟩, (j2 _ (by omega)).trans s1, (j2 _ (by omega)).trans s2, (i2 _ _ (by omega)).trans s3, (j2 _ (by omega)).trans s4, (j2 _ (by omega)).trans s5, (j2 _ (by omega)).trans s6, (i2 _ _ (by omega)).trans s7⟩, ⟨n, x, (i2 _ _ (by omega)).trans t1, (j2 _ (by omega)).trans t2, t3, t4, fun j hj => ⟨(i4 _ _ (by omega)).trans (t5 j hj).1, (j4 _ _ (by omega)).trans (t5 j hj).2⟩⟩, hT', c, q, hcq, (i3 _ _).trans r5, (i3 _ _).trans r6, ?_⟩
    rcases hx with ⟨n1, n2, n3, n4⟩ | ⟨P, m, xk, nk, hC, hM⟩
    · exact Or.inl ⟨(j2 _ (by omega)).trans n1, (i2 _ _ (by omega)).trans n2, (j2 _ (by omega)).trans n3, (i2 _ _ (by omega)).trans n4⟩
    · have F1 : frC c σ z := ⟨fun o j ho => i2 _ _ (by omega), fun o j ho => i3 o j, fun a i ha => i4 a i (by omega)⟩
      have F2 : frT τ w := ⟨fun j hj => j2 j (by omega), fun a i ha => j4 a i (by omega)⟩
      have hG : PG P w := PG_c hC.2.2.2.1 (j2 _ (by omega)) (j2 _ (by omega)) (fun i => j6 7 i) (fun a i a1 a2 => j4 a i (by omega))
      have hA : TAt σ τ → TAt z w := fun ⟨j, i', z1, z2, z3, z4⟩ => ⟨j, i + 1, (i2 _ _ (by omega)).trans z1, (j2 _ (by omega)).trans z2, i1, (by
        have : i = i' := (nI_eq (by omega) (by omega)).mp (y1.symm.trans z3)
        omega), by omega⟩
      exact Or.inr ⟨P, m, xk, nk, RC_g hc F1 F2 hG hC, RMW_g hc F1 F2 hC.2.2.2.1.1 hG.1 hT' hA hM⟩
theorem Rel_outSize (h : Rel ln tx tc cc mc io k σ τ) : ∃ r, fX11_outSize ln N M σ = some (r, σ) ∧ fX12_outSize N τ = some (r, τ) := by
  obtain ⟨hS, hx, ⟨i, o, y1, y2, y3, y4, y5, y6, y7, y8⟩, -⟩ := h
  exact ⟨nI o, by unfold fX11_outSize; rw [y4], by unfold fX12_outSize; rw [y5]⟩
theorem Rel_out {v : Int32} (h : Rel ln tx tc cc mc io k σ τ) : ∃ r, fX11_out ln N M v σ = some (r, σ) ∧ fX12_out N v τ = some (r, τ) := by
  obtain ⟨hS, hx, ⟨i, o, y1, y2, y3, y4, y5, y6, y7, y8⟩, -⟩ := h
  have hlm := hS.1.2.2.1
  have hio := hlm.2.2.2.2.2.2.2.2.2.2
  exact ⟨_, outC v (by rw [hlm.2.1]; exact y6) (by rw [hlm.2.1]; exact hio) y4, (outR v (by omega) y5).trans (by rw [rdS_cong (by omega) y8 v])⟩
theorem Rel_code (h : Rel ln tx tc cc mc io k σ τ) : ∃ c n, (c = 9 ∨ c = 10) ∧ zR σ 0 5 = c + 1 ∧ n ≤ cc ∧ cc ≤ 4096 ∧ ln (c + 36) = cc ∧ zI σ (c + 4) 1 = nI n ∧ zI τ 0 6 = nI n ∧ ∀ j, j < n → zA σ (c + 36) j = zA τ 2 j := by
  obtain ⟨hS, hx, hT, c, q, hcq, r5, r6, hx⟩ := h
  have hc : c = 9 ∨ c = 10 := by omega
  have hS' := hS
  obtain ⟨⟨l9, l10, lm, l15, ltx, ltc, lcc⟩, s1, s2, s3, s4, s5, s6, s7⟩ := hS
  have hlc : ln (c + 36) = cc := by
    rcases hc with e | e
    · rw [e]; exact l9.2.2.2.2.2.2.2.2.2.2.2.1
    · rw [e]; exact l10.2.2.2.2.2.2.2.2.2.2.2.1
  rcases hx with ⟨n1, n2, n3, n4⟩ | ⟨P, m, xk, nk, hC, hM⟩
  · exact ⟨c, 0, hc, r5, by omega, lcc, hlc, n4, n3, fun j hj => absurd hj (Nat.not_lt_zero _)⟩
  · have hE := RC_ME hc hS' hC
    obtain ⟨h1, h2, h3, h4, h5, h6, h7, h8, h9, h10, h11, h12, h13, h14, h15⟩ := hC
    refine ⟨c, P.2.2.1, hc, r5, h10, lcc, hlc, h9, h11, fun j hj => ?_⟩
    rw [hE.2.2.1.2.2.2.1 j hj, hE.2.2.2.1.2.1 j hj]
theorem Rel_codeSize (h : Rel ln tx tc cc mc io k σ τ) : ∃ r, fX11_codeSize ln N M σ = some (r, σ) ∧ fX12_codeSize N τ = some (r, τ) := by
  obtain ⟨c, n, hc, r5, hn, hcc, hl, h1, h2, h3⟩ := Rel_code h
  exact ⟨nI n, by unfold fX11_codeSize; rw [rbP hc r5, h1], by unfold fX12_codeSize; rw [h2]⟩
theorem Rel_codeAt {v : Int32} (h : Rel ln tx tc cc mc io k σ τ) : ∃ r, fX11_codeAt ln N M v σ = some (r, σ) ∧ fX12_codeAt N v τ = some (r, τ) := by
  obtain ⟨c, n, hc, r5, hn, hcc, hl, h1, h2, h3⟩ := Rel_code h
  refine ⟨_, ?_, (codeAtR v (by omega) h2).trans (by rw [← rdS_cong (by omega) h3 v])⟩
  unfold fX11_codeAt
  rw [rbP hc r5, atC (n := n) (q := c + 4) v (by rw [show c + 4 + 32 = c + 36 by omega, hl]; exact hn) (by rw [show c + 4 + 32 = c + 36 by omega, hl]; exact hcc) h1, obd_s, show c + 4 + 32 = c + 36 by omega]
end
