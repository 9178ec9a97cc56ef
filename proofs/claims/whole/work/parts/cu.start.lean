/-! BOTH: where machine and text by itself begin -/
section
variable {mc io c m : Nat} {P : yP} {σ τ : zSt}
theorem startM (hc : c = 9 ∨ c = 10) (hio : io ≤ 4096) (hb : BGg mc c σ) (hr : RSg τ) (hmc : mc ≤ 4096) (h2 : zI σ c 2 = nI P.2.1) (h29 : zI τ 0 29 = nI P.2.1) (hT : TPr io σ τ) : MR mc io P σ τ ∧ TAt σ τ := by
  obtain ⟨b1, b2, b3, b4, b5, b6, b7, b8, b9, b10, b11, b12, b13, b14, b15, b16, b17, b18, b19⟩ := hb
  obtain ⟨r1, r2, r3, r4, r5, r6, r7, r8, r9, r10, r11, r12⟩ := hr
  have hA : TAt σ τ := by
    obtain ⟨i, o, t1, t2, t3, t4⟩ := hT
    exact ⟨0, i, b1, r7, t1, by omega, by omega⟩
  refine ⟨⟨hT, b8.trans r4.symm, fun _ => ⟨?_, fun _ => b6.trans h2⟩, Or.inl ⟨r5, b9, r4⟩⟩, hA⟩
  by_cases g : P.2.1 ≤ mc
  · exact Or.inl ⟨g, hA, fun _ => 0, 0, P.2.1, 0, ⟨b5, b6.trans h2, b7, fun i hi => (b19 i hi).1, b8⟩, ⟨r1, r2.trans h29, r3, fun i hi => (r11 i (by omega)).1, r4⟩, g, Or.inl ⟨rfl, rfl, rfl⟩⟩
  · exact Or.inr ⟨by omega, b9⟩
theorem startW (hc : c = 9 ∨ c = 10) (hb : BGg mc c σ) (hr : RSg τ) (hmc : mc ≤ 4096) (h71 : zI τ 0 71 ≠ 0) (h3 : zI σ c 3 = nI (nst P m)) (hm : isF P m) (hm0 : npF P m = 0) (hT : TPr io σ τ) (hA : TAt σ τ) : WR P m c mc io σ τ := by
  obtain ⟨b1, b2, b3, b4, b5, b6, b7, b8, b9, b10, b11, b12, b13, b14, b15, b16, b17, b18, b19⟩ := hb
  obtain ⟨r1, r2, r3, r4, r5, r6, r7, r8, r9, r10, r11, r12⟩ := hr
  obtain ⟨q1, q2, q3⟩ := r12 h71
  refine ⟨hT, b15.trans r4.symm, fun _ => ?_, Or.inl ⟨r5, b16, r4⟩⟩
  by_cases g : P.2.1 ≤ mc
  · refine Or.inl ⟨g, fun _ => 0, fun _ => 0, fun _ => 0, 0, 0, (0, fZ, m), [], [], 1, ⟨⟨b11, b12, b13, b14, fun i hi => absurd hi (Nat.not_lt_zero _), fun i hi => absurd hi (Nat.not_lt_zero _), fun i hi => (b19 i (by omega)).2, b15⟩, ⟨r8, q1, r9, r10, fun i hi => absurd hi (Nat.not_lt_zero _), fun i hi => absurd hi (Nat.not_lt_zero _), fun i hi => (r11 i (by omega)).2, r4⟩, ⟨?_, trivial⟩, rfl, hT, hA⟩, Or.inl ⟨rfl, rfl, hm, by show npF P m ≤ 0; omega, ?_⟩, Or.inr ⟨rfl, rfl, rfl, rfl, rfl⟩⟩
    · exact ⟨q2, b17, b18.trans h3, Or.inl ⟨q3, rfl⟩⟩
    · show okW P [] 1 (0 - npF P m + 1) []
      rw [hm0]
      exact ⟨rfl, rfl, rfl⟩
  · refine Or.inr ⟨by omega, fun _ => 0, fun _ => 0, fun i => zA σ 30 i, ⟨?_, b12, b13, b14, fun i hi => absurd hi (by omega), fun i hi => absurd hi (Nat.not_lt_zero _), fun i hi => rfl, b15⟩, b17, b18.trans h3⟩
    rw [hm0]
    exact b11
end
