/-! THE TEXT BY ITSELF: returns, rows, bodies -/
section
variable {ln : Nat → Nat} {N M mc io c m n k fc e b gs : Nat} {P : yP} {vl lc gb : Nat → Int32} {σ τ : zSt}
theorem dropC (hl : LM ln mc io) (h : XC gs vl lc gb n k (fc + 1) e σ) (hf : fc + 1 ≤ mc + 16) (hb : zA σ 32 fc = nI b) (hbe : b ≤ e) : fX10_dropFrame ln N M σ = some ((), zsI (zsI σ 8 12 (nI fc)) 8 13 (nI b)) ∧ XC gs vl lc gb n k fc b (zsI (zsI σ 8 12 (nI fc)) 8 13 (nI b)) := by
  obtain ⟨l1, l2, l3, l4, l5, l6, l7, l8, l9, l10, l11⟩ := hl
  obtain ⟨h1, h2, h3, h4, h5, h6, h7, h8⟩ := h
  constructor
  · unfold fX10_dropFrame
    rw [l9, h3, if_neg (fun w => by rw [show (0 : Int32) = nI 0 from rfl, nI_le' (by omega) (by omega)] at w; omega), if_neg (fun w => by rw [nI_ltI (by omega) (by omega)] at w; omega), show nI (fc + 1) - (1 : Int32) = nI fc from nI_sb fc 1, bnd_e, show zI (zsI σ 8 12 (nI fc)) 8 12 = nI fc by rw [zI_I, if_pos ⟨rfl, rfl⟩], nI_clamp (by omega), if_neg (ixN (by omega) (by omega)), zA_I, hb, bnd_e]
  · exact ⟨by rw [zI_I, if_neg (by omega), zI_I, if_neg (by omega)]; exact h1, by rw [zI_I, if_neg (by omega), zI_I, if_neg (by omega)]; exact h2, by rw [zI_I, if_neg (by omega), zI_I, if_pos ⟨rfl, rfl⟩], by rw [zI_I, if_pos ⟨rfl, rfl⟩], h5, fun i hi => h6 i (by omega), h7, by rw [zI_I, if_neg (by omega), zI_I, if_neg (by omega)]; exact h8⟩
theorem leavR (h : XR gs vl lc gb n k (fc + 1) e τ) (hf : fc < 4120) (hb : zA τ 47 fc = nI b) (hbe : b ≤ e) : fX12_leaves N τ = some ((), zsI (zsI τ 0 87 (nI fc)) 0 84 (nI b)) ∧ XR gs vl lc gb n k fc b (zsI (zsI τ 0 87 (nI fc)) 0 84 (nI b)) := by
  obtain ⟨h1, h2, h3, h4, h5, h6, h7, h8⟩ := h
  constructor
  · unfold fX12_leaves
    rw [h3, show nI (fc + 1) - (1 : Int32) = nI fc from nI_sb fc 1, bnd_e, show zI (zsI τ 0 87 (nI fc)) 0 87 = nI fc by rw [zI_I, if_pos ⟨rfl, rfl⟩], nI_clamp (by omega), if_neg (ixN (by omega) (by omega)), zA_I, hb, bnd_e]
  · exact ⟨by rw [zI_I, if_neg (by omega), zI_I, if_neg (by omega)]; exact h1, by rw [zI_I, if_neg (by omega), zI_I, if_neg (by omega)]; exact h2, by rw [zI_I, if_neg (by omega), zI_I, if_pos ⟨rfl, rfl⟩], by rw [zI_I, if_pos ⟨rfl, rfl⟩], h5, fun i hi => h6 i (by omega), h7, by rw [zI_I, if_neg (by omega), zI_I, if_neg (by omega)]; exact h8⟩
theorem retL (hl : LM ln mc io) (hc : c = 9 ∨ c = 10) : ∀ (I : List aI) (n : Nat) (F : List Nat) (f1 f2 : Nat) (σ τ : zSt), okW P I 0 n F → itR P m c σ τ I F → I.length ≤ mc + 15 → I.length < f1 → I.length < f2 → zI τ 0 82 = nI I.length → ∃ f I' F' z y, F = f :: F' ∧ okW P I' 1 (n + 1) F' ∧ itR P m c σ τ I' F' ∧ I'.length < I.length ∧ fX10_finishReturn_b7 ln N M f1 (nI (I.length - 1)) σ = fX10_finishReturn_b45 ln N M z ∧ zI z 8 11 = nI I'.length ∧ (∀ o q, ¬ (o = 8 ∧ q = 11) → zI z o q = zI σ o q) ∧ z.2 = σ.2 ∧ fX12_does_b216 N f2 τ = fX12_leaves N y ∧ zI y 0 82 = nI I'.length ∧ (∀ o q, ¬ (o = 0 ∧ q = 82) → zI y o q = zI τ o q) ∧ y.2 = τ.2 := by
  have hmc := hl.2.2.2.2.2.2.2.2.2.1
  have l5 := hl.2.2.2.2.1
  intro I
  induction I with
  | nil => intro n F f1 f2 σ τ h; exact absurd h.1 (by decide)
  | cons a I ih =>
    intro n F f1 f2 σ τ h hI hlen hf1 hf2 h82
    rw [List.length_cons] at hlen hf1 hf2 h82
    obtain ⟨f1, rfl⟩ : ∃ g, f1 = g + 1 := ⟨f1 - 1, by omega⟩
    obtain ⟨f2, rfl⟩ : ∃ g, f2 = g + 1 := ⟨f2 - 1, by omega⟩
    have s1 := hI.1
    have s2 := hI.2
    unfold slI at s1
    rw [List.length_cons, show I.length + 1 - 1 = I.length by omega, fX10_finishReturn_b7, fX12_does_b216, l5, if_neg (nI_pos (by omega)), if_neg (fun w => by rw [nI_le' (by omega) (by omega)] at w; omega), bnd_e, nI_clamp (by omega), if_neg (ixN (by omega) (by omega)), zA_I, h82, show nI (I.length + 1) - (1 : Int32) = nI I.length from nI_sb _ 1, nI_clamp (by omega), if_neg (ixN (by omega) (by omega))]
    -- what isn't the end
    have go : okW P I 0 n F → itR P m c σ τ I F → zA σ 28 I.length ≠ 6 → zA τ 44 I.length ≠ 6 → ∃ f I' F' z y, F = f :: F' ∧ okW P I' 1 (n + 1) F' ∧ itR P m c σ τ I' F' ∧ I'.length < I.length + 1 ∧ (if (zA σ 28 I.length) = (6 : Int32) then fX10_finishReturn_b45 ln N M (zsI σ 8 11 (nI I.length)) else bnd ((nI I.length) + (-1 : Int32)) (fun x5 => fX10_finishReturn_b7 ln N M f1 x5 (zsI σ 8 11 (nI I.length)))) = fX10_finishReturn_b45 ln N M z ∧ zI z 8 11 = nI I'.length ∧ (∀ o q, ¬ (o = 8 ∧ q = 11) → zI z o q = zI σ o q) ∧ z.2 = σ.2 ∧ (if (zA τ 44 I.length) = (6 : Int32) then (bnd (zsI τ 0 82 (nI I.length)) (fun σ17 => obd (fX12_leaves N σ17) (fun _ σ19 => some ((), σ19)))) else (bnd (zsI τ 0 82 (nI I.length)) (fun σ20 => fX12_does_b216 N f2 σ20))) = fX12_leaves N y ∧ zI y 0 82 = nI I'.length ∧ (∀ o q, ¬ (o = 0 ∧ q = 82) → zI y o q = zI τ o q) ∧ y.2 = τ.2 := by
      intro ho hi h28 h44
      have hpos : 1 ≤ I.length := by
        cases I with
        | nil => exact absurd ho.1 (by decide)
        | cons x I => rw [List.length_cons]; omega
      have hi2 : itR P m c (zsI σ 8 11 (nI I.length)) (zsI τ 0 82 (nI I.length)) I F := itR_f (σ := σ) (τ := τ) (σ' := zsI σ 8 11 (nI I.length)) (τ' := zsI τ 0 82 (nI I.length)) hc ⟨fun _ _ _ _ => rfl, fun _ _ _ _ => rfl, fun _ => rfl⟩ I F (fun p hp => ⟨rfl, rfl, rfl, rfl⟩) hi
      obtain ⟨f, I', F', z, y, r1, r2, r3, r4, r5, r6, r7, r8, r9, r10, r11, r12⟩ := ih n F f1 f2 _ _ ho hi2 (by omega) (by omega) (by omega) (by rw [zI_I, if_pos ⟨rfl, rfl⟩])
      refine ⟨f, I', F', z, y, r1, r2, itR_f (σ := zsI σ 8 11 (nI I.length)) (τ := zsI τ 0 82 (nI I.length)) (σ' := σ) (τ' := τ) hc ⟨fun _ _ _ _ => rfl, fun _ _ _ _ => rfl, fun _ => rfl⟩ I' F' (fun p hp => ⟨rfl, rfl, rfl, rfl⟩) r3, by omega, ?_, r6, fun o q hq => (r7 o q hq).trans (by rw [zI_I, if_neg hq]), r8, ?_, r10, fun o q hq => (r11 o q hq).trans (by rw [zI_I, if_neg hq]), r12⟩
      · rw [if_neg h28]
        have e1 : nI I.length + (-1 : Int32) = nI (I.length - 1) := by
          obtain ⟨q, hq⟩ : ∃ q, I.length = q + 1 := ⟨I.length - 1, by omega⟩
          rw [hq]
          exact nI_m1
        rw [e1, bnd_e]
        exact r5
      · rw [if_neg h44, bnd_e]
        exact r9
    rcases h with h | h | h
    · exact absurd h.2.1 (by decide)
    · obtain ⟨h7, -, F', rfl, ho⟩ := h
      rw [if_neg (by omega), if_neg (by omega), if_neg (by omega), if_pos h7] at s1
      rw [if_pos h7] at s2
      rw [if_pos s1.2, if_pos s1.1, bnd_e, obd_u]
      exact ⟨a.2.2, I, F', _, _, rfl, ho, s2, Nat.lt_succ_self _, rfl, by rw [zI_I, if_pos ⟨rfl, rfl⟩], fun o q hq => by rw [zI_I, if_neg hq], rfl, rfl, by rw [zI_I, if_pos ⟨rfl, rfl⟩], fun o q hq => by rw [zI_I, if_neg hq], rfl⟩
    · obtain ⟨g, F', rfl, hg, h⟩ := h
      rcases h with h | h | h | h | h | h | h | h | h
      · exact absurd h.2.1 (by decide)
      · exact absurd h.2.1 (by decide)
      · exact absurd h.2.1 (by decide)
      · exact absurd h.2.1 (by decide)
      · exact absurd h.2.1 (by decide)
      · exact absurd h.2.1 (by decide)
      · obtain ⟨h2, -, -, ho⟩ := h
        rw [if_neg (by omega), if_neg (by omega), if_neg (by omega), if_neg (by omega), if_neg (by omega)] at s1
        rw [if_neg (by omega)] at s2
        exact go ho s2 (by rw [s1.2.1, h2]; decide) (by rw [s1.1, h2]; decide)
      · obtain ⟨h2, -, -, ho⟩ := h
        rw [if_neg (by omega), if_pos h2] at s1
        rw [if_neg (by omega)] at s2
        exact go ho s2 (by rw [s1.2.2.1]; decide) (by rw [s1.1]; decide)
      · obtain ⟨h2, -, -, -, ho⟩ := h
        rw [if_neg (by omega), if_neg (by omega), if_neg (by omega), if_neg (by omega), if_neg (by omega)] at s1
        rw [if_neg (by omega)] at s2
        exact go ho s2 (by rw [s1.2.1, h2]; decide) (by rw [s1.1, h2]; decide)
end
