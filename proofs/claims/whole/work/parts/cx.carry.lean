/-! BOTH: what the one machine leaves of the other -/
section
variable {mc io c m : Nat} {P : yP} {σ τ σ' τ' : zSt}
theorem WR_k (hc : c = 9 ∨ c = 10) (f1 : kMC σ σ') (f2 : kMR τ τ') (h : WR P m c mc io σ τ) (h0 : zI τ 0 75 = 0) (h76 : zI σ 8 15 = 0) (hT : TPr io σ' τ') (h75 : zI τ' 0 75 = 0) (h76' : zI τ' 0 76 = 0) (hA : P.2.1 ≤ mc → TAt σ' τ') : WR P m c mc io σ' τ' := by
  obtain ⟨x1, x2, x3, x4⟩ := h
  have XCk : ∀ {gs n k fc e : Nat} {vl lc gb : Nat → Int32}, XC gs vl lc gb n k fc e σ → XC gs vl lc gb n k fc e σ' := fun h => by
    obtain ⟨h1, h2, h3, h4, h5, h6, h7, h8⟩ := h
    exact ⟨(f1.1 _ _ (by omega) (by omega)).trans h1, (f1.1 _ _ (by omega) (by omega)).trans h2, (f1.1 _ _ (by omega) (by omega)).trans h3, (f1.1 _ _ (by omega) (by omega)).trans h4, fun i hi => (f1.2.2.2.1 _ _ (by omega) (by omega)).trans (h5 i hi), fun i hi => (f1.2.2.2.1 _ _ (by omega) (by omega)).trans (h6 i hi), fun i hi => (f1.2.2.2.1 _ _ (by omega) (by omega)).trans (h7 i hi), (f1.1 _ _ (by omega) (by omega)).trans h8⟩
  refine ⟨hT, by rw [f1.1 8 14 (by omega) (by omega), x2, h0, h75], fun _ => ?_, Or.inl ⟨h76', (f1.1 8 15 (by omega) (by omega)).trans h76, h75⟩⟩
  rcases x3 h0 with ⟨hg, vl, lc, gb, n, e, a, I, Fr, md, ⟨w1, w2, w3, w4, w5, w6⟩, ho, hb⟩ | ⟨hg, vl, lc, gb, X, h28, h29⟩
  · refine Or.inl ⟨hg, vl, lc, gb, n, e, a, I, Fr, md, ⟨XCk w1, ?_, itR_f (σ := σ) (τ := τ) hc ⟨fun a i a1 a2 => f1.2.2.2.1 a i (by omega) (by omega), fun a i a1 a2 => f2.2.1 a i (by omega) (by omega), fun i => f2.2.1 11 i (by omega) (by omega)⟩ (a :: I) _ (fun p hp => ⟨f1.2.2.2.1 _ _ (by omega) (by omega), f1.2.2.2.1 _ _ (by omega) (by omega), f2.2.1 _ _ (by omega) (by omega), f2.2.1 _ _ (by omega) (by omega)⟩) w3, frR_f (σ := σ) (τ := τ) Fr e (fun p hp => ⟨f2.2.1 _ _ (by omega) (by omega), f2.2.1 _ _ (by omega) (by omega), f1.2.2.2.1 _ _ (by omega) (by omega)⟩) w4, hT, hA hg⟩, ho, hb⟩
    obtain ⟨h1, h2, h3, h4, h5, h6, h7, h8⟩ := w2
    exact ⟨(f2.1 _ (by omega) (by omega) (by omega)).trans h1, (f2.1 _ (by omega) (by omega) (by omega)).trans h2, (f2.1 _ (by omega) (by omega) (by omega)).trans h3, (f2.1 _ (by omega) (by omega) (by omega)).trans h4, fun i hi => (f2.2.1 _ _ (by omega) (by omega)).trans (h5 i hi), fun i hi => (f2.2.1 _ _ (by omega) (by omega)).trans (h6 i hi), fun i hi => (f2.2.1 _ _ (by omega) (by omega)).trans (h7 i hi), h75⟩
  · exact Or.inr ⟨hg, vl, lc, gb, XCk X, (f1.2.2.2.1 _ _ (by omega) (by omega)).trans h28, (f1.2.2.2.1 _ _ (by omega) (by omega)).trans h29⟩
theorem MR_j (f1 : jWC σ σ') (f2 : jWR τ τ') (h : MR mc io P σ τ) (h0 : zI τ 0 75 = 0) (h77 : zI σ 7 7 = 0) (hT : TPr io σ' τ') (h75 : zI τ' 0 75 = 0) (h76' : zI τ' 0 76 = 0) (hA : P.2.1 ≤ mc → TAt σ' τ') : MR mc io P σ' τ' := by
  obtain ⟨x1, x2, x3, x4⟩ := h
  obtain ⟨go, g4⟩ := x3 h0
  refine ⟨hT, by rw [f1.1 7 6 (by omega) (by omega), x2, h0, h75], fun _ => ⟨?_, fun _ => (f1.1 7 4 (by omega) (by omega)).trans (g4 h77)⟩, Or.inl ⟨h76', (f1.1 7 7 (by omega) (by omega)).trans h77, h75⟩⟩
  rcases go with ⟨hg, -, mem, pc, sp, fp, v, w, hs, hM⟩ | ⟨hg, -⟩
  · refine Or.inl ⟨hg, hA hg, mem, pc, sp, fp, ⟨(f1.1 _ _ (by omega) (by omega)).trans v.1, (f1.1 _ _ (by omega) (by omega)).trans v.2.1, (f1.1 _ _ (by omega) (by omega)).trans v.2.2.1, fun i hi => (f1.2.2.2.1 _ _ (by omega) (by omega)).trans (v.2.2.2.1 i hi), (f1.1 _ _ (by omega) (by omega)).trans v.2.2.2.2⟩, ⟨(f2.1 _ (by omega) (by omega) (by omega)).trans w.1, (f2.1 _ (by omega) (by omega) (by omega)).trans w.2.1, (f2.1 _ (by omega) (by omega) (by omega)).trans w.2.2.1, fun i hi => (f2.2.1 _ _ (by omega) (by omega)).trans (w.2.2.2.1 i hi), h75⟩, hs, hM⟩
  · exact Or.inr ⟨hg, (f1.1 7 7 (by omega) (by omega)).trans h77⟩
end
