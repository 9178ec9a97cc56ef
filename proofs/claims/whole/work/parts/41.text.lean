/-! PURE: the text, feed. n: how many signs the text has, c: its cells, x: its signs -/
def txR (c n : Nat) (x : Nat → Int32) (τ : zSt) : Prop := zI τ 0 1 = nI c ∧ zI τ 0 2 = nI n ∧ ∀ j, j < n → zA τ 1 j = x j
def txC (n : Nat) (x : Nat → Int32) (σ : zSt) : Prop := zI σ 1 1 = nI n ∧ ∀ j, j < n → zA σ 15 j = x j
theorem feedR {N c n : Nat} {x : Nat → Int32} {τ : zSt} (v : Int32) (hc : c ≤ 4096) (hn : n ≤ c) (h : txR c n x τ) :
    fX12_feed N v τ = some (if n = c then ((1 : Int32), τ) else ((0 : Int32), zsI (zsA τ 1 n v) 0 2 (nI (n + 1)))) := by
  obtain ⟨h1, h2, h3⟩ := h
  unfold fX12_feed
  simp only [bnd_e, zI_A, h1, h2]
  by_cases e : n = c
  · simp [e]
  · have e1 : ¬ nI n = nI c := fun q => e ((nI_eq (by omega) (by omega)).mp q)
    rw [if_neg e1, if_neg (ix_ok (by omega) (by omega)), nI_clamp (by omega), if_neg e, ← nI_1]
theorem feedC {ln : Nat → Nat} {N M c n : Nat} {x : Nat → Int32} {σ : zSt} (v : Int32) (hln : ln 15 = c) (hc : c ≤ 4096) (hn : n ≤ c) (h : txC n x σ) :
    fX11_feed ln N M v σ = some (if n = c then ((1 : Int32), σ) else ((0 : Int32), zsI (zsA σ 15 n v) 1 1 (nI (n + 1)))) := by
  obtain ⟨h1, h2⟩ := h
  unfold fX11_feed fX7_put
  simp only [bnd_e, zI_A, h1, hln]
  by_cases e : n = c
  · have e1 : ¬ nI n < nI c := nI_nlt (by omega) (by omega)
    rw [if_neg e1, obd_s, if_pos rfl, if_pos e]
  · have e1 : nI n < nI c := nI_lt (by omega) (by omega)
    rw [if_pos e1, if_neg (ix_ok (by omega) (by omega)), nI_clamp (by omega), obd_s, if_neg (by decide), if_neg e, nI_1]
/-- input: c cells, n numbers -/
theorem inputR {N c n : Nat} {τ : zSt} (v : Int32) (hc : c ≤ 4096) (hn : n ≤ c) (h1 : zI τ 0 10 = nI c) (h2 : zI τ 0 11 = nI n) :
    fX12_input N v τ = some (if n = c then ((1 : Int32), τ) else ((0 : Int32), zsI (zsA τ 4 n v) 0 11 (nI (n + 1)))) := by
  unfold fX12_input
  simp only [bnd_e, zI_A, h1, h2]
  by_cases e : n = c
  · simp [e]
  · have e1 : ¬ nI n = nI c := fun q => e ((nI_eq (by omega) (by omega)).mp q)
    rw [if_neg e1, if_neg (ix_ok (by omega) (by omega)), nI_clamp (by omega), if_neg e, ← nI_1]
theorem inputC {ln : Nat → Nat} {N M c n : Nat} {σ : zSt} (v : Int32) (hln : ln 24 = c) (hc : c ≤ 4096) (hn : n ≤ c) (h1 : zI σ 6 2 = nI n) :
    fX11_input ln N M v σ = some (if n = c then ((1 : Int32), σ) else ((0 : Int32), zsI (zsA σ 24 n v) 6 2 (nI (n + 1)))) := by
  unfold fX11_input fX8_putInput
  simp only [bnd_e, zI_A, h1, hln]
  by_cases e : n = c
  · have e1 : ¬ nI n < nI c := nI_nlt (by omega) (by omega)
    rw [if_neg e1, obd_s, if_pos rfl, if_pos e]
  · have e1 : nI n < nI c := nI_lt (by omega) (by omega)
    rw [if_pos e1, if_neg (ix_ok (by omega) (by omega)), nI_clamp (by omega), obd_s, if_neg (by decide), if_neg e, nI_1]
/-- number i of n; -1 if there is none such -/
def rdS (n : Nat) (g : Nat → Int32) (x : Int32) : Int32 := if x < 0 then -1 else if nI n ≤ x then -1 else g x.toNatClampNeg
theorem rdS_cong {n : Nat} {f g : Nat → Int32} (hn : n < 2 ^ 31) (h : ∀ j, j < n → f j = g j) (x : Int32) : rdS n f x = rdS n g x := by
  unfold rdS
  by_cases h0 : x < 0
  · rw [if_pos h0, if_pos h0]
  · by_cases h1 : nI n ≤ x
    · rw [if_neg h0, if_neg h0, if_pos h1, if_pos h1]
    · rw [if_neg h0, if_neg h0, if_neg h1, if_neg h1]
      obtain ⟨j, hj, rfl, -, e, -⟩ := pk_mu h0 h1 hn
      rw [e]
      exact h j hj
theorem outR {N n : Nat} {τ : zSt} (x : Int32) (hn : n ≤ 4096) (h : zI τ 0 14 = nI n) : fX12_out N x τ = some (rdS n (zA τ 5) x, τ) := by
  unfold fX12_out fX12_out_b12 rdS
  rw [h]
  by_cases h0 : x < 0
  · rw [if_pos h0, if_pos h0]
  · rw [if_neg h0, if_neg h0]
    by_cases h1 : nI n ≤ x
    · have h2 : ¬ x < nI n := fun q => by rw [Int32.lt_iff_toInt_lt] at q; rw [Int32.le_iff_toInt_le] at h1; omega
      rw [if_neg h2, if_pos h1]
    · have h2 : x < nI n := by rw [Int32.lt_iff_toInt_lt]; rw [Int32.le_iff_toInt_le] at h1; omega
      obtain ⟨j, hj, rfl, -, e, -⟩ := pk_mu h0 h1 (by omega)
      rw [if_pos h2, if_neg h1, if_neg (ix_ok (by omega) (by omega))]
theorem codeAtR {N n : Nat} {τ : zSt} (x : Int32) (hn : n ≤ 4096) (h : zI τ 0 6 = nI n) : fX12_codeAt N x τ = some (rdS n (zA τ 2) x, τ) := by
  unfold fX12_codeAt fX12_codeAt_b12 rdS
  rw [h]
  by_cases h0 : x < 0
  · rw [if_pos h0, if_pos h0]
  · rw [if_neg h0, if_neg h0]
    by_cases h1 : nI n ≤ x
    · have h2 : ¬ x < nI n := fun q => by rw [Int32.lt_iff_toInt_lt] at q; rw [Int32.le_iff_toInt_le] at h1; omega
      rw [if_neg h2, if_pos h1]
    · have h2 : x < nI n := by rw [Int32.lt_iff_toInt_lt]; rw [Int32.le_iff_toInt_le] at h1; omega
      obtain ⟨j, hj, rfl, -, e, -⟩ := pk_mu h0 h1 (by omega)
      rw [if_pos h2, if_neg h1, if_neg (ix_ok (by omega) (by omega))]
theorem outC {ln : Nat → Nat} {N M n : Nat} {σ : zSt} (x : Int32) (hn : n ≤ ln 25) (hl : ln 25 ≤ 4096) (h : zI σ 6 4 = nI n) : fX11_out ln N M x σ = some (rdS n (zA σ 25) x, σ) := by
  unfold fX11_out fX8_outputAt rdS
  rw [h]
  by_cases h0 : x < 0
  · rw [if_pos h0, if_pos h0, obd_s]
  · rw [if_neg h0, if_neg h0]
    by_cases h1 : nI n ≤ x
    · rw [if_pos h1, if_pos h1, obd_s]
    · obtain ⟨j, hj, rfl, -, e, -⟩ := pk_mu h0 h1 (by omega)
      have h3 : ¬ nI (ln 25) ≤ nI j := nI_ge (by omega) (by omega)
      rw [if_neg h1, if_neg h1, if_neg h3, if_neg (ix_ok (by omega) (by omega)), obd_s]
theorem atC {ln : Nat → Nat} {N M n q : Nat} {σ : zSt} (x : Int32) (hn : n ≤ ln (q + 32)) (hl : ln (q + 32) ≤ 4096) (h : zI σ q 1 = nI n) : fX0_at ln N M q x σ = some (rdS n (zA σ (q + 32)) x, σ) := by
  unfold fX0_at rdS
  rw [h]
  by_cases h0 : x < 0
  · rw [if_pos h0, if_pos h0]
  · rw [if_neg h0, if_neg h0]
    by_cases h1 : nI n ≤ x
    · rw [if_pos h1, if_pos h1]
    · obtain ⟨j, hj, rfl, -, e, -⟩ := pk_mu h0 h1 (by omega)
      have h3 : ¬ nI (ln (q + 32)) ≤ nI j := nI_ge (by omega) (by omega)
      rw [if_neg h1, if_neg h1, if_neg h3, if_neg (ix_ok (by omega) (by omega))]
