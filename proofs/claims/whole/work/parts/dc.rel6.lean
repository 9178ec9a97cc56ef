/-! BOTH: reset, compile, and the small calls -/
section
variable {ln : Nat → Nat} {N M tx tc cc mc io k : Nat} {σ τ : zSt}
theorem Rel_up {k' : Nat} (hk : k ≤ k') (h : Rel ln tx tc cc mc io k σ τ) : Rel ln tx tc cc mc io k' σ τ := by
  obtain ⟨hS, ⟨n, x, t1, t2, t3, t4, t5⟩, h⟩ := h
  exact ⟨hS, ⟨n, x, t1, t2, t3, by omega, t5⟩, h⟩
theorem PCv_main {c m : Nat} {P : yP} (hK : pKm P m) (h : PCv ln P c P σ) : zI σ c 3 = nI (nst P m) := by
  rw [h.2.1]
  exact pKm_mn (f := fun m => nI (nst P m)) hK
theorem Rel_reset (hN : 5000 ≤ N) (h : Rel ln tx tc cc mc io k σ τ) : ∃ σ' τ', fX11_reset ln N M σ = some ((), σ') ∧ fX12_reset N τ = some ((), τ') ∧ Rel ln tx tc cc mc io k σ' τ' := by
  obtain ⟨hS, ⟨n, x, t1, t2, t3, t4, t5⟩, hT, c, q, hcq, r5, r6, hx⟩ := h
  have hc : c = 9 ∨ c = 10 := by omega
  have hlm := hS.1.2.2.1
  obtain ⟨u0, z, g1, f, g⟩ := agnC (N := N) (M := M) hlm hN hc r5
  obtain ⟨u1, w, g2, f2, g3⟩ := resetR (N := N) (τ := τ) hN
  refine ⟨z, w, by unfold fX11_reset; rw [g1, obd_s], g2, ?_⟩
  have hT' : TPr io z w := by
    obtain ⟨i, o, y1, y2, y3, y4, y5, y6, y7, y8⟩ := hT
    exact ⟨i, 0, (f.1 _ _ (by omega) (by omega) (by omega)).trans y1, (f2.1 _ (by omega)).trans y2, y3, g.2.1, g3.2.2.2.2.2.1, by omega, fun j hj => ((f.2.2.2.1 _ _ (by omega) (by omega) (by omega) (by omega)).trans (y7 j hj)).trans (f2.2.1 _ _ (by omega) (by omega) (by omega) (by omega)).symm, fun j hj => absurd hj (Nat.not_lt_zero _)⟩
  obtain ⟨h0, s1, s2, s3, s4, s5, s6, s7⟩ := hS
  refine ⟨⟨h0, (f2.1 _ (by omega)).trans s1, (f2.1 _ (by omega)).trans s2, (f.1 _ _ (by omega) (by omega) (by omega)).trans s3, (f2.1 _ (by omega)).trans s4, (f2.1 _ (by omega)).trans s5, (f2.1 _ (by omega)).trans s6, (f.1 _ _ (by omega) (by omega) (by omega)).trans s7⟩, ⟨n, x, (f.1 _ _ (by omega) (by omega) (by omega)).trans t1, (f2.1 _ (by omega)).trans t2, t3, t4, fun j hj => ⟨(f.2.2.2.1 _ _ (by omega) (by omega) (by omega) (by omega)).trans (t5 j hj).1, (f2.2.1 _ _ (by omega) (by omega) (by omega) (by omega)).trans (t5 j hj).2⟩⟩, hT', c, q, hcq, (f.2.2.1 _ _ (by omega) (by omega)).trans r5, (f.2.2.1 _ _ (by omega) (by omega)).trans r6, ?_⟩
  rcases hx with ⟨n1, n2, n3, n4⟩ | ⟨P, m, xk, nk, hC, hM⟩
  · exact Or.inl ⟨(f2.1 _ (by omega)).trans n1, (f.1 _ _ (by omega) (by omega) (by omega)).trans n2, (f2.1 _ (by omega)).trans n3, (f.1 _ _ (by omega) (by omega) (by omega)).trans n4⟩
  · obtain ⟨h1, h2, h3, h4, h5, h6, h7, h8, h9, h10, h11, h12, h13, h14, h15⟩ := hC
    have hV : PCv ln P c P z := PCv_k hc h6 (f.1 _ _ (by omega) (by omega) (by omega)) (f.1 _ _ (by omega) (by omega) (by omega)) (fun a i a1 a2 => f.2.2.2.1 a i (by omega) (by omega) (by omega) (by omega))
    have h71 : zI w 0 71 = 1 := (f2.1 _ (by omega)).trans h1
    have hG : PG P w := PG_c h4 (f2.1 _ (by omega)) (f2.1 _ (by omega)) (fun i => f2.2.2 7 i) (fun a i a1 a2 => f2.2.1 a i (by omega) (by omega) (by omega) (by omega))
    refine Or.inr ⟨P, m, xk, nk, ⟨h71, (f.1 _ _ (by omega) (by omega) (by omega)).trans h2, ⟨(f2.1 _ (by omega)).trans h3.1, h3.2.1, fun j hj => (f2.2.1 _ _ (by omega) (by omega) (by omega) (by omega)).trans (h3.2.2.1 j hj), h3.2.2.2⟩, hG, h5, hV, (f.1 _ _ (by omega) (by omega) (by omega)).trans h7, h8, (f.1 _ _ (by omega) (by omega) (by omega)).trans h9, h10, (f2.1 _ (by omega)).trans h11, fun j w hj => (f2.2.1 _ _ (by omega) (by omega) (by omega) (by omega)).trans (h12 j w hj), g.2.2.1, g.2.2.2.1, g.2.2.2.2.2.2.2.2.2.1.trans hV.1⟩, ?_⟩
    obtain ⟨hR, hA⟩ := startM (P := P) hc hlm.2.2.2.2.2.2.2.2.2.2 g g3 hlm.2.2.2.2.2.2.2.2.2.1 hV.1 hG.2 hT'
    exact Or.inl ⟨hR, startW hc g g3 hlm.2.2.2.2.2.2.2.2.2.1 (by rw [h71]; decide) (PCv_main h5 hV) h5.2.2.1 h5.2.2.2.1 hT' hA⟩
theorem yAll_k {x : Nat → Int32} {n : Nat} {Q : yP} (h : yAll x n tc cc = .ok Q) : yRead x n tc = .ok Q ∧ Q.2.2.1 ≤ cc := by
  unfold yAll at h
  cases hr : yRead x n tc with
  | error e => rw [hr, xb_e] at h; cases h
  | ok P =>
    rw [hr, xb_k] at h
    by_cases c : P.2.2.1 ≤ cc
    · rw [if_pos c] at h; cases h; exact ⟨rfl, c⟩
    · rw [if_neg c] at h; cases h
theorem Rel_compile (hN : 12000 ≤ N) (hM : 43 ≤ M) (hk : k ≤ 512) (h : Rel ln tx tc cc mc io k σ τ) : ∃ v σ' τ', fX11_compile ln N M σ = some (v, σ') ∧ fX12_compile N τ = some (v, τ') ∧ Rel ln tx tc cc mc io k σ' τ' := by
  obtain ⟨hS, ⟨n, x, t1, t2, t3, t4, t5⟩, hT, c, q, hcq, r5, r6, hx⟩ := h
  have hc : c = 9 ∨ c = 10 := by omega
  have hq : q = 9 ∨ q = 10 := by omega
  have hlm := hS.1.2.2.1
  obtain ⟨⟨l9, l10, -, l15, ltx, ltc, lcc⟩, s1, s2, s3, s4, s5, s6, s7⟩ := hS
  have hL : LN ln q cc := by
    rcases hq with e | e
    · rw [e]; exact l9
    · rw [e]; exact l10
  obtain ⟨r, z, g1, c1, c2⟩ := compC (N := N) (M := M) (x := x) (n := n) hL hlm (by omega) (by omega) hM ⟨t1, by omega, by omega, fun j hj => (t5 j hj).1⟩ s3 ltc r5 r6 hc
  have key : ∃ P xk nk, zI τ 0 71 ≠ 0 → KP tc P xk nk τ ∧ ∃ m, RC ln tc cc c P m xk nk σ τ ∧ RMW P m c mc io σ τ := by
    rcases hx with ⟨n1, -⟩ | ⟨P, m, xk, nk, hC, hM⟩
    · exact ⟨(((fun _ => 0), (fun _ => 0), (fun _ => 0), (fun _ => 0), 0), 0, 0, (fun _ => fZ), (fun _ => 0)), (fun _ => 0), 0, fun h => absurd n1 h⟩
    · exact ⟨P, xk, nk, fun _ => ⟨hC.2.2.1, m, hC, hM⟩⟩
  obtain ⟨P, xk, nk, key⟩ := key
  obtain ⟨r', w, g2, d1, d2⟩ := compR (N := N) (x := x) (n := n) (P := P) (xk := xk) (nk := nk) (by omega) hN t2 (fun j hj => (t5 j hj).2) s2 ltc s4 lcc (fun h => (key h).1)
  cases hy : yAll x n tc cc with
  | error e =>
    obtain ⟨e1, f⟩ := c1 e hy
    obtain ⟨e2, -, f2, hG⟩ := d1 e hy
    refine ⟨r, z, w, g1, by rw [g2, e1, e2], ?_⟩
    have fI : ∀ o j, ¬ okI q o j → zI z o j = zI σ o j := f.1
    have hT' : TPr io z w := by
      obtain ⟨i, o, y1, y2, y3, y4, y5, y6, y7, y8⟩ := hT
      exact ⟨i, o, (fI _ _ (by unfold okI; omega)).trans y1, (f2.1 _ (by omega)).trans y2, y3, (fI _ _ (by unfold okI; omega)).trans y4, (f2.1 _ (by omega)).trans y5, y6, fun j hj => ((f.2.2.2.1 _ _ (by unfold okA; omega)).trans (y7 j hj)).trans (f2.2 _ _ (by omega)).symm, fun j hj => ((f.2.2.2.1 _ _ (by unfold okA; omega)).trans (y8 j hj)).trans (f2.2 _ _ (by omega)).symm⟩
    refine ⟨⟨⟨l9, l10, hlm, l15, ltx, ltc, lcc⟩, (f2.1 _ (by omega)).trans s1, (f2.1 _ (by omega)).trans s2, (fI _ _ (by unfold okI; omega)).trans s3, (f2.1 _ (by omega)).trans s4, (f2.1 _ (by omega)).trans s5, (f2.1 _ (by omega)).trans s6, (fI _ _ (by unfold okI; omega)).trans s7⟩, ⟨n, x, (fI _ _ (by unfold okI; omega)).trans t1, (f2.1 _ (by omega)).trans t2, t3, t4, fun j hj => ⟨(f.2.2.2.1 _ _ (by unfold okA; omega)).trans (t5 j hj).1, (f2.2 _ _ (by omega)).trans (t5 j hj).2⟩⟩, hT', c, q, hcq, (f.2.2.1 _ _ (by omega) (by omega)).trans r5, (f.2.2.1 _ _ (by omega) (by omega)).trans r6, ?_⟩
    by_cases h71 : zI τ 0 71 = 0
    · rcases hx with ⟨n1, n2, n3, n4⟩ | ⟨P', m', xk', nk', hC', hM'⟩
      · exact Or.inl ⟨(f2.1 _ (by omega)).trans n1, (fI _ _ (by unfold okI; omega)).trans n2, (f2.1 _ (by omega)).trans n3, (fI _ _ (by unfold okI; omega)).trans n4⟩
      · exact absurd (hC'.1.symm.trans h71) (by decide)
    · obtain ⟨-, m, hC, hM⟩ := key h71
      have F1 : frC c σ z := ⟨fun o j ho => fI _ _ (by unfold okI; omega), fun o j ho => f.2.2.1 o j (by omega) (by omega), fun a i ha => f.2.2.2.1 a i (by unfold okA; omega)⟩
      have F2 : frT τ w := ⟨fun j hj => f2.1 j (by omega), fun a i ha => f2.2 a i (by omega)⟩
      have hA : TAt σ τ → TAt z w := fun ⟨j, i, y1, y2, y3, y4⟩ => ⟨j, i, (fI _ _ (by unfold okI; omega)).trans y1, (f2.1 _ (by omega)).trans y2, (fI _ _ (by unfold okI; omega)).trans y3, y4⟩
      exact Or.inr ⟨P, m, xk, nk, RC_g hc F1 F2 (hG h71) hC, RMW_g hc F1 F2 hC.2.2.2.1.1 (hG h71).1 hT' hA hM⟩
  | ok Q =>
    obtain ⟨e1, v1, v2, v3, v4, v5, v6, v7, v8, v9⟩ := c2 Q hy
    obtain ⟨e2, w1, w2, w3, w4, w5, w6, w7⟩ := d2 Q hy
    obtain ⟨hr, hcs⟩ := yAll_k hy
    obtain ⟨m, hK⟩ := yRead_k (by omega) hr (by omega)
    refine ⟨r, z, w, g1, by rw [g2, e1, e2], ?_⟩
    obtain ⟨u1, u2, u3, u4, u5⟩ := v8
    have hT' : TPr io z w := by
      obtain ⟨i, o, y1, y2, y3, y4, y5, y6, y7, y8⟩ := hT
      exact ⟨i, 0, u3.trans y1, (w1.1 _ (by omega)).trans y2, y3, v7.2.1, w7.2.2.2.2.2.1, by omega, fun j hj => ((u5 _ _ (by omega)).trans (y7 j hj)).trans (w1.2 _ _ (by omega)).symm, fun j hj => absurd hj (Nat.not_lt_zero _)⟩
    refine ⟨⟨⟨l9, l10, hlm, l15, ltx, ltc, lcc⟩, (w1.1 _ (by omega)).trans s1, (w1.1 _ (by omega)).trans s2, u2.trans s3, (w1.1 _ (by omega)).trans s4, (w1.1 _ (by omega)).trans s5, (w1.1 _ (by omega)).trans s6, u4.trans s7⟩, ⟨n, x, u1.trans t1, (w1.1 _ (by omega)).trans t2, t3, t4, fun j hj => ⟨(u5 _ _ (by omega)).trans (t5 j hj).1, (w1.2 _ _ (by omega)).trans (t5 j hj).2⟩⟩, hT', q, c, by omega, v1, v2, Or.inr ⟨Q, m, x, n, ⟨w4, v4, w2, w3, hK, v3, v5, v9, v6, hcs, w5, w6, v7.2.2.1, v7.2.2.2.1, v7.2.2.2.2.2.2.2.2.2.1.trans v3.1⟩, ?_⟩⟩
    obtain ⟨hR, hA⟩ := startM (P := Q) hq hlm.2.2.2.2.2.2.2.2.2.2 v7 w7 hlm.2.2.2.2.2.2.2.2.2.1 v3.1 w3.2 hT'
    exact Or.inl ⟨hR, startW hq v7 w7 hlm.2.2.2.2.2.2.2.2.2.1 (by rw [w4]; decide) (PCv_main hK v3) hK.2.2.1 hK.2.2.2.1 hT' hA⟩
end
