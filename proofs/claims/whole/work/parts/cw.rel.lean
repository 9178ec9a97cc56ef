/-! BOTH: what holds between calls -/
def RMW (P : yP) (m c mc io : Nat) (σ τ : zSt) : Prop := (MR mc io P σ τ ∧ WR P m c mc io σ τ) ∨ (MR mc io P σ τ ∧ zI τ 0 76 = 1 ∧ zI σ 8 15 = 0) ∨ (WR P m c mc io σ τ ∧ zI τ 0 76 = 2 ∧ zI σ 7 7 = 0)
section
variable {ln : Nat → Nat} {tx tc cc mc io c m nk : Nat} {P : yP} {xk : Nat → Int32} {σ τ σ' τ' : zSt}
theorem RS_k (f1 : kMC σ σ') (f2 : kMR τ τ') (h : RS ln tx tc cc mc io σ τ) : RS ln tx tc cc mc io σ' τ' := by
  obtain ⟨h0, s1, s2, s3, s4, s5, s6, s7⟩ := h
  exact ⟨h0, (f2.1 _ (by omega) (by omega) (by omega)).trans s1, (f2.1 _ (by omega) (by omega) (by omega)).trans s2, (f1.1 _ _ (by omega) (by omega)).trans s3, (f2.1 _ (by omega) (by omega) (by omega)).trans s4, (f2.1 _ (by omega) (by omega) (by omega)).trans s5, (f2.1 _ (by omega) (by omega) (by omega)).trans s6, (f1.1 _ _ (by omega) (by omega)).trans s7⟩
theorem RC_k (hc : c = 9 ∨ c = 10) (f1 : kMC σ σ') (f2 : kMR τ τ') (h : RC ln tc cc c P m xk nk σ τ) : RC ln tc cc c P m xk nk σ' τ' := by
  obtain ⟨h1, h2, h3, h4, h5, h6, h7, h8, h9, h10, h11, h12, h13, h14, h15⟩ := h
  refine ⟨(f2.1 _ (by omega) (by omega) (by omega)).trans h1, (f1.1 _ _ (by omega) (by omega)).trans h2, ⟨(f2.1 _ (by omega) (by omega) (by omega)).trans h3.1, h3.2.1, fun j hj => (f2.2.1 _ _ (by omega) (by omega)).trans (h3.2.2.1 j hj), h3.2.2.2⟩, ?_, h5, ?_, (f1.1 _ _ (by omega) (by omega)).trans h7, h8, (f1.1 _ _ (by omega) (by omega)).trans h9, h10, (f2.1 _ (by omega) (by omega) (by omega)).trans h11, fun j w hj => (f2.2.1 _ _ (by omega) (by omega)).trans (h12 j w hj), (f1.2.2.1 _ _).trans h13, (f1.2.2.1 _ _).trans h14, (f1.1 _ _ (by omega) (by omega)).trans h15⟩
  · exact PG_c h4 (f2.1 _ (by omega) (by omega) (by omega)) (f2.1 _ (by omega) (by omega) (by omega)) (fun i => f2.2.2 7 i) (fun a i a1 a2 => f2.2.1 a i (by omega) (by omega))
  · exact PCv_k hc h6 (f1.1 _ _ (by omega) (by omega)) (f1.1 _ _ (by omega) (by omega)) (fun a i a1 a2 => f1.2.2.2.1 a i (by omega) (by omega))
theorem RS_j (f1 : jWC σ σ') (f2 : jWR τ τ') (h : RS ln tx tc cc mc io σ τ) : RS ln tx tc cc mc io σ' τ' := by
  obtain ⟨h0, s1, s2, s3, s4, s5, s6, s7⟩ := h
  exact ⟨h0, (f2.1 _ (by omega) (by omega) (by omega)).trans s1, (f2.1 _ (by omega) (by omega) (by omega)).trans s2, (f1.1 _ _ (by omega) (by omega)).trans s3, (f2.1 _ (by omega) (by omega) (by omega)).trans s4, (f2.1 _ (by omega) (by omega) (by omega)).trans s5, (f2.1 _ (by omega) (by omega) (by omega)).trans s6, (f1.1 _ _ (by omega) (by omega)).trans s7⟩
theorem RC_j (hc : c = 9 ∨ c = 10) (f1 : jWC σ σ') (f2 : jWR τ τ') (h : RC ln tc cc c P m xk nk σ τ) : RC ln tc cc c P m xk nk σ' τ' := by
  obtain ⟨h1, h2, h3, h4, h5, h6, h7, h8, h9, h10, h11, h12, h13, h14, h15⟩ := h
  refine ⟨(f2.1 _ (by omega) (by omega) (by omega)).trans h1, (f1.1 _ _ (by omega) (by omega)).trans h2, ⟨(f2.1 _ (by omega) (by omega) (by omega)).trans h3.1, h3.2.1, fun j hj => (f2.2.1 _ _ (by omega) (by omega)).trans (h3.2.2.1 j hj), h3.2.2.2⟩, ?_, h5, ?_, (f1.1 _ _ (by omega) (by omega)).trans h7, h8, (f1.1 _ _ (by omega) (by omega)).trans h9, h10, (f2.1 _ (by omega) (by omega) (by omega)).trans h11, fun j w hj => (f2.2.1 _ _ (by omega) (by omega)).trans (h12 j w hj), (f1.2.2.1 _ _).trans h13, (f1.2.2.1 _ _).trans h14, (f1.1 _ _ (by omega) (by omega)).trans h15⟩
  · exact PG_c h4 (f2.1 _ (by omega) (by omega) (by omega)) (f2.1 _ (by omega) (by omega) (by omega)) (fun i => f2.2.2 7 i) (fun a i a1 a2 => f2.2.1 a i (by omega) (by omega))
  · exact PCv_k hc h6 (f1.1 _ _ (by omega) (by omega)) (f1.1 _ _ (by omega) (by omega)) (fun a i a1 a2 => f1.2.2.2.1 a i (by omega) (by omega))
end
