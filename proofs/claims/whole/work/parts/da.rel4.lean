/-! BOTH: step -/
section
variable {ln : Nat → Nat} {N M tx tc cc mc io k : Nat} {σ τ : zSt}
theorem Rel_step (hN : 2 ^ 31 ≤ N) (h : Rel ln tx tc cc mc io k σ τ) : ∃ v σ' τ', fX11_step ln N M σ = some (v, σ') ∧ fX12_step N τ = some (v, τ') ∧ Rel ln tx tc cc mc io k σ' τ' := by
  have h' := h
  obtain ⟨hS, ⟨n, x, t1, t2, t3, t4, t5⟩, hT, c, q, hcq, r5, r6, hx⟩ := h'
  have hc : c = 9 ∨ c = 10 := by omega
  unfold fX11_step fX11_goOnMachine
  rw [rbP hc r5]
  rcases hx with ⟨n1, n2, n3, n4⟩ | ⟨P, m, xk, nk, hC, hM⟩
  · unfold fX12_step
    rw [if_pos n2, if_pos n1, obd_s]
    exact ⟨_, _, _, rfl, rfl, h⟩
  · have h71 : zI τ 0 71 ≠ 0 := by rw [hC.1]; decide
    have h4 : zI σ c 4 ≠ 0 := by rw [hC.2.1]; decide
    rw [if_neg h4]
    have fin : ∀ v σ' τ', fX3_goOn ln N M 1 σ = some (v, σ') → zI σ 8 15 = 0 → fX12_step N τ = some (v, τ') → kMC σ σ' → kMR τ τ' → TPr io σ' τ' → RMW P m c mc io σ' τ' → ∃ v σ' τ', obd (if (zI σ 8 15) = 0 then (obd (fX3_goOn ln N M 1 σ) (fun r2 σ3 => some (r2, σ3))) else some ((-2 : Int32), σ)) (fun r1 σ2 => some (r1, σ2)) = some (v, σ') ∧ fX12_step N τ = some (v, τ') ∧ Rel ln tx tc cc mc io k σ' τ' := by
      intro v σ' τ' g1 g0 g2 f1 f2 gT gM
      rw [if_pos g0, g1, obd_s, obd_s]
      refine ⟨v, σ', τ', rfl, g2, RS_k f1 f2 hS, ⟨n, x, (f1.1 _ _ (by omega) (by omega)).trans t1, (f2.1 _ (by omega) (by omega) (by omega)).trans t2, t3, t4, fun j hj => ⟨(f1.2.2.2.1 _ _ (by omega) (by omega)).trans (t5 j hj).1, (f2.2.1 _ _ (by omega) (by omega)).trans (t5 j hj).2⟩⟩, gT, c, q, hcq, (f1.2.2.1 _ _).trans r5, (f1.2.2.1 _ _).trans r6, Or.inr ⟨P, m, xk, nk, RC_k hc f1 f2 hC, gM⟩⟩
    have hE := RC_ME hc hS hC
    rcases hM with ⟨hR, hW⟩ | ⟨hR, h1, h2⟩ | ⟨hW, h1, h2⟩
    · have h76 : zI τ 0 76 = 0 ∧ zI σ 7 7 = 0 ∧ zI τ 0 75 = 0 ∧ zI σ 8 15 = 0 := by
        rcases hR.2.2.2 with e | e
        · rcases hW.2.2.2 with d | d
          · exact ⟨e.1, e.2.1, e.2.2, d.2.1⟩
          · rw [e.1] at d; exact absurd d.1 (by decide)
        · rcases hW.2.2.2 with d | d
          · rw [e.1] at d; exact absurd d.1 (by decide)
          · rw [e.1] at d; exact absurd d.1 (by decide)
      obtain ⟨v, σ', τ', g1, g2, g3, f1, f2, g4⟩ := stepR (N := N) (M := M) hN hE hR
      refine fin v σ' τ' g1 h76.2.2.2 g2 f1 f2 g3.1 ?_
      rcases g3.2.2.2 with e | e
      · exact Or.inl ⟨g3, WR_k hc f1 f2 hW h76.2.2.1 h76.2.2.2 g3.1 e.2.2 e.1 (fun hg => by
          rcases (g3.2.2.1 e.2.2).1 with d | d
          · exact d.2.1
          · exact absurd d.1 (by omega))⟩
      · exact Or.inr (Or.inl ⟨g3, e.1, (f1.1 _ _ (by omega) (by omega)).trans h76.2.2.2⟩)
    · obtain ⟨v, σ', τ', g1, g2, g3, f1, f2, g4⟩ := stepR (N := N) (M := M) hN hE hR
      refine fin v σ' τ' g1 h2 g2 f1 f2 g3.1 ?_
      have h77 : zI σ 7 7 = 1 := by
        rcases hR.2.2.2 with e | e
        · rw [e.1] at h1; exact absurd h1 (by decide)
        · exact e.2
      rcases g3.2.2.2 with e | e
      · exact absurd (e.2.1.symm.trans (g4 h77)) (by decide)
      · exact Or.inr (Or.inl ⟨g3, e.1, (f1.1 _ _ (by omega) (by omega)).trans h2⟩)
    · have h815 : zI σ 8 15 = 1 := by
        rcases hW.2.2.2 with e | e
        · rw [e.1] at h1; exact absurd h1 (by decide)
        · exact e.2
      unfold fX12_step
      rw [if_neg (by rw [h815]; decide), if_neg h71, if_pos h1, obd_s]
      exact ⟨_, _, _, rfl, rfl, h⟩
end
