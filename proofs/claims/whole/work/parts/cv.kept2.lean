/-! BOTH: a program that is kept -/
/-- lengths and sizes that never change -/
def RS (ln : Nat → Nat) (tx tc cc mc io : Nat) (σ τ : zSt) : Prop := (LN ln 9 cc ∧ LN ln 10 cc ∧ LM ln mc io ∧ ln 15 = tx ∧ tx ≤ 4096 ∧ tc ≤ 4096 ∧ cc ≤ 4096) ∧ zI τ 0 1 = nI tx ∧ zI τ 0 3 = nI tc ∧ zI σ 3 2 = nI tc ∧ zI τ 0 5 = nI cc ∧ zI τ 0 8 = nI mc ∧ zI τ 0 10 = nI io ∧ zI σ 8 0 = nI mc
/-- the program in both -/
def RC (ln : Nat → Nat) (tc cc c : Nat) (P : yP) (m : Nat) (xk : Nat → Int32) (nk : Nat) (σ τ : zSt) : Prop := zI τ 0 71 = 1 ∧ zI σ c 4 = 1 ∧ KP tc P xk nk τ ∧ PG P τ ∧ pKm P m ∧ PCv ln P c P σ ∧ zI σ (c + 2) 6 = nI (nst P P.1.2.2.2.2) ∧ nst P P.1.2.2.2.2 ≤ ln 15 ∧ zI σ (c + 4) 1 = nI P.2.2.1 ∧ P.2.2.1 ≤ cc ∧ zI τ 0 6 = nI P.2.2.1 ∧ (∀ (j : Nat) (w : Int32), (prL P (mnF P (fun m => nI (szN P m)) 0) P.1.2.2.2.2)[j]? = some w → zA τ 2 j = w) ∧ zR σ 7 2 = c + 5 ∧ zR σ 8 8 = c + 3 ∧ zI σ 8 9 = nI P.2.1
def cdf (sz : Nat) (τ : zSt) : Nat → Int32 := fun i => if i < sz then zA τ 2 i else -99
section
variable {ln : Nat → Nat} {tx tc cc mc io c m nk : Nat} {P : yP} {xk : Nat → Int32} {σ τ : zSt}
theorem pKm_mn {α : Type} {f : Nat → α} {d : α} (h : pKm P m) : mnF P f d = f m := by
  obtain ⟨h1, h2, h3, h4, h5, h6⟩ := h
  unfold mnF
  rw [h5]
  have hk := (h1.1 m h3).2.2.1
  show (if P.1.2.1 m = 2 ∧ P.1.2.2.2.1 m = 0 then f m else d) = f m
  rw [if_pos ⟨h3.2, by rw [hk, h4]; rfl⟩]
theorem RC_ME (hc : c = 9 ∨ c = 10) (hS : RS ln tx tc cc mc io σ τ) (h : RC ln tc cc c P m xk nk σ τ) : ME ln mc io c P.2.2.1 (cdf P.2.2.1 τ) P m σ τ := by
  obtain ⟨⟨l9, l10, lm, l15, ltx, ltc, lcc⟩, s1, s2, s3, s4, s5, s6, s7⟩ := hS
  obtain ⟨h1, h2, h3, h4, h5, h6, h7, h8, h9, h10, h11, h12, h13, h14, h15⟩ := h
  have hlc : ln (c + 36) = cc := by
    rcases hc with e | e
    · rw [e]; exact l9.2.2.2.2.2.2.2.2.2.2.2.1
    · rw [e]; exact l10.2.2.2.2.2.2.2.2.2.2.2.1
  have hlen : (prL P (mnF P (fun m => nI (szN P m)) 0) P.1.2.2.2.2).length = P.2.2.1 := by rw [prL_len, h5.1.2.1]
  have hcd : cdC ln c σ 0 (prL P (mnF P (fun m => nI (szN P m)) 0) P.1.2.2.2.2) := cdC_app (l := [32, mnF P (fun m => nI (szN P m)) 0, 0, 0]) h6.2.2.1 h6.2.2.2.1
  have hget : ∀ i, i < P.2.2.1 → ∃ w, (prL P (mnF P (fun m => nI (szN P m)) 0) P.1.2.2.2.2)[i]? = some w := fun i hi => ⟨_, List.getElem?_eq_getElem (by rw [hlen]; exact hi)⟩
  refine ⟨⟨lm.1, lm.2.1, lm.2.2.1, lm.2.2.2.2.2.2.2.2.2.1, lm.2.2.2.2.2.2.2.2.2.2⟩, s6, ⟨hc, h13, h9, fun i hi => ?_, by omega, by omega⟩, ⟨h11, fun i hi => (if_pos hi).symm, by omega⟩, s5, h4.2, h5.1, rfl, ?_, fun i hi => if_neg (by omega), h5.2.2.1, h5.2.2.2.1, by rw [h1]; decide⟩
  · obtain ⟨w, hw⟩ := hget i hi
    have e1 := hcd (by rw [hlen, hlc]; omega) i w hw
    rw [Nat.zero_add] at e1
    rw [e1]
    show w = if i < P.2.2.1 then zA τ 2 i else -99
    rw [if_pos hi, h12 i w hw]
  · rw [← pKm_mn (f := fun m => nI (szN P m)) (d := 0) h5]
    intro j w hj
    have hlt := (List.getElem?_eq_some_iff.mp hj).1
    rw [hlen] at hlt
    rw [Nat.zero_add]
    show (if j < P.2.2.1 then zA τ 2 j else -99) = w
    rw [if_pos hlt, h12 j w hj]
theorem RC_WEN (hc : c = 9 ∨ c = 10) (hS : RS ln tx tc cc mc io σ τ) (h : RC ln tc cc c P m xk nk σ τ) : WEN ln mc io c P m σ τ := by
  obtain ⟨⟨l9, l10, lm, l15, ltx, ltc, lcc⟩, s1, s2, s3, s4, s5, s6, s7⟩ := hS
  obtain ⟨h1, h2, h3, h4, h5, h6, h7, h8, h9, h10, h11, h12, h13, h14, h15⟩ := h
  exact ⟨lm, ⟨hc, h14, h7, h8, by omega, fun a a1 a2 => LN_t l9 a1 a2⟩, s5, s6, h4.2, s7, h15, h5, h4.1, fun g hg => h6.2.2.2.2 g hg.1 hg.2⟩
end
