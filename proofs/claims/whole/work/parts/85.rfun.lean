/-! THE REFERENCE'S READER: a FUNCTION -/
def plS (l : Nat) (j : Nat) : Int32 := ((-2 : Int32) - nI l) + nI j
theorem plS_eq {l j : Nat} (hl : l ≤ 8) (hj : j < l) : plS l j = nI j - 2 - nI l := by
  have fin : ∀ l : Nat, l ≤ 8 → ∀ j : Nat, j < l → ((-2 : Int32) - nI l) + nI j = nI j - 2 - nI l := by decide +kernel
  exact fin l hl j hj
/-- the places of the parameters from k on -/
def plF (l : Nat) : Nat → Nat → zSt → zSt
  | 0, _, u => u
  | f + 1, k, u => plF l f (k + 1) (zsA u 14 k (plS l k))
theorem plF_I {l f k j : Nat} {u : zSt} : zI (plF l f k u) 0 j = zI u 0 j := by
  induction f generalizing k u with
  | zero => rfl
  | succ f ih => rw [plF, ih, zI_A]
theorem plF_L {l f k o j : Nat} {u : zSt} : zL (plF l f k u) o j = zL u o j := by
  induction f generalizing k u with
  | zero => rfl
  | succ f ih => rw [plF, ih, zL_A]
theorem plF_B {l f k a j : Nat} {u : zSt} : zB (plF l f k u) a j = zB u a j := by
  induction f generalizing k u with
  | zero => rfl
  | succ f ih => rw [plF, ih, zB_A]
theorem plF_A {l f k a j : Nat} {u : zSt} (h : a ≠ 14) : zA (plF l f k u) a j = zA u a j := by
  induction f generalizing k u with
  | zero => rfl
  | succ f ih => rw [plF, ih, zA_A, if_neg (by omega)]
theorem plF_14 {l f k j : Nat} {u : zSt} : zA (plF l f k u) 14 j = if k ≤ j ∧ j < k + f then plS l j else zA u 14 j := by
  induction f generalizing k u with
  | zero => rw [plF, if_neg (by omega)]
  | succ f ih =>
    rw [plF, ih, zA_A]
    by_cases h1 : j = k
    · subst h1
      rw [if_neg (by omega), if_pos ⟨rfl, rfl⟩, if_pos (by omega)]
    · by_cases h2 : k + 1 ≤ j ∧ j < k + 1 + f
      · rw [if_pos h2, if_pos (by omega)]
      · rw [if_neg h2, if_neg (by omega), if_neg (by omega)]
theorem b133R {N l : Nat} (hl : l ≤ 8) : ∀ (f k m : Nat) (u : zSt), k + f = l → zI u 0 30 = nI l → f < m → fX12_tellFunction_b133 N m (nI k) u = obd (fX12_isWell N (plF l f k u)) (fun r17 σ18 => if r17 = 0 then some ((), σ18) else obd (fX12_block N σ18) (fun r19 σ20 => if (zI σ18 0 35) < 0 ∨ 1400 ≤ (zI σ18 0 35).toNatClampNeg then none else bnd (zsA σ20 11 (zI σ18 0 35).toNatClampNeg r19) (fun σ21 => some ((), σ21)))) := by
  intro f
  induction f with
  | zero =>
    intro k m u hk h30 hm
    obtain ⟨m, rfl⟩ : ∃ g, m = g + 1 := ⟨m - 1, by omega⟩
    rw [fX12_tellFunction_b133, h30, show k = l by omega, if_pos (nI_le (Nat.le_refl _) (by omega))]
    rfl
  | succ f ih =>
    intro k m u hk h30 hm
    obtain ⟨m, rfl⟩ : ∃ g, m = g + 1 := ⟨m - 1, by omega⟩
    rw [fX12_tellFunction_b133, h30, if_neg (nI_ge (by omega) (by omega)), nI_clamp (by omega), if_neg (ixN (show k < 1400 by omega) (by omega)), bnd_e, bnd_e, nI_1, ih (k + 1) m _ (by omega) (by rw [zI_A]; exact h30) (by omega)]
    rfl
/-- how the parameters end where something is wrong -/
theorem b125E {x : Nat → Int32} {n fn N : Nat} {e : Int32} {τ u : zSt} {Q : Unit → zSt → Prop} (hN : 5000 ≤ N) (h : PE x n fn e τ u) (he : e ≠ 0) (hQ : ∀ z, FXb x n 1200 e τ z → Q () z) : wp (fX12_tellFunction_b125 N u) Q := by
  obtain ⟨h1, h2, h3, l, hl, h30⟩ := h
  unfold fX12_tellFunction_b125
  have h0 : zI u 0 21 ≠ 0 := by rw [h1]; exact he
  rw [closesD h0, obd_s, bnd_e, show (0 : Int32) = nI 0 from rfl, b133R hl l 0 N _ (by omega) (by rw [zI_I, if_neg (by omega)]; exact h30) (by omega)]
  have e21 : zI (plF l l 0 (zsI u 0 37 (zI u 0 37 - 1))) 0 21 = e := by rw [plF_I, zI_I, if_neg (by omega)]; exact h1
  rw [isWellF (by rw [e21]; exact he), obd_s, if_pos (show (0 : Int32) = 0 from rfl)]
  obtain ⟨r1, ⟨p, r2, r3⟩, d, r4, r5⟩ := h2
  have hP : fP u (plF l l 0 (zsI u 0 37 (zI u 0 37 - 1))) := ⟨fun j hj => by rw [plF_I, zI_I, if_neg (by omega)], fun a i ha => by rw [plF_A (by omega), zA_I]⟩
  exact wp_s (hQ _ ⟨e21, ⟨srcR_fP r1 hP, ⟨p, r2, by rw [plF_I, zI_I, if_neg (by omega)]; exact r3⟩, d, r4, by rw [plF_I, zI_I, if_neg (by omega)]; exact r5⟩, fP_trans (fQ_P h3) hP⟩)
/-- the parameters have been closed: names as they stand in the BLOCK -/
theorem PR_SV {x : Nat → Int32} {n tc : Nat} {G : gE} {w0 : Int64} {a : Int32} {L : lE} {tk : yTok} {c nd ns : Nat} {u : zSt} (hL : L.2.2 ≤ 8) (h : PR x n tc G w0 L tk c ns nd u) : SV x n tc (gAdd G w0 2 a (nI L.2.2)) (lPlace L) tk c ns nd (plF L.2.2 L.2.2 0 u) := by
  obtain ⟨⟨⟨s1, s2, s3⟩, g1, g3⟩, t1, h1, h2, h3, h4, h5, h6, h7, h8, h9, h10, h11, h12, h13⟩ := h
  refine ⟨⟨⟨?_, s2, fun j hj => ?_⟩, ?_, ?_, fun g hg => ?_, ?_, fun j hj => ?_⟩, ?_, ?_, ?_, ?_, ?_⟩
  · rw [plF_I]; exact s1
  · rw [plF_A (by omega)]; exact s3 j hj
  · rw [plF_I]; exact g1
  · rw [plF_I]; exact h9
  · have hg2 : g < G.2.2.2.2 + 1 := hg
    rw [plF_B, plF_A (by omega), plF_A (by omega), plF_A (by omega)]
    by_cases e : g = G.2.2.2.2
    · subst e
      simp only [gAdd, if_true]
      exact ⟨h10, h11, h12, fun q => (q rfl).elim⟩
    · simp only [gAdd, if_neg e]
      exact g3 g (by omega)
  · rw [plF_I]; exact h5
  · have hj2 : j < L.2.2 := hj
    rw [plF_B, plF_14, if_pos (by omega)]
    exact ⟨h6 j hj2, plS_eq hL hj2⟩
  · unfold rT
    rw [plF_I, plF_I, plF_I, plF_L]
    exact t1
  · rw [plF_I]; exact h1
  · rw [plF_I]; exact h2
  · rw [plF_I]; exact h3
  · rw [plF_I]; exact h4
