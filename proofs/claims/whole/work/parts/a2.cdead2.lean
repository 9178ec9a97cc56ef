/-! THE CLASS: names, and E where something is wrong already -/
theorem findA {ln : Nat → Nat} {N M : Nat} {w : Int64} {fr : Int32} {σ : zSt} : ∀ (m f : Nat), m ≤ ln 16 → ln 16 ≤ 4096 → m < f → wp (fX4_find_b8 ln N M f w fr (nI m - 1) σ) (fun _ z => z = σ) := by
  intro m
  induction m with
  | zero =>
    intro f _ _ hf
    obtain ⟨f, rfl⟩ : ∃ g, f = g + 1 := ⟨f - 1, by omega⟩
    rw [fX4_find_b8, show nI 0 - 1 = -1 from rfl]
    by_cases c : (-1 : Int32) < fr
    · rw [if_pos c]; exact wp_s rfl
    · rw [if_neg c, if_pos (by decide)]; exact wp_s rfl
  | succ m ih =>
    intro f hm hl hf
    obtain ⟨f, rfl⟩ : ∃ g, f = g + 1 := ⟨f - 1, by omega⟩
    rw [fX4_find_b8, nI_pred]
    by_cases c : nI m < fr
    · rw [if_pos c]; exact wp_s rfl
    · rw [if_neg c, if_neg (nI_pos (by omega)), nI_clamp (by omega), if_neg (ixN (by omega) (by omega))]
      by_cases c2 : lg_cmp (zB σ 16 m) w = 0
      · rw [if_pos c2]; exact wp_s rfl
      · rw [if_neg c2, bnd_e, show nI m + -1 = nI m - 1 from (Int32.sub_eq_add_neg ..).symm]
        exact ih f (by omega) hl (by omega)
theorem findD {ln : Nat → Nat} {N M q cc b : Nat} {e fr : Int32} {w : Int64} {σ : zSt} (hL : LN ln q cc) (hN : 5000 ≤ N) (h : DS ln q e b σ) : wp (fX4_find ln N M w fr σ) (fun _ z => z = σ) := by
  obtain ⟨k, h1, h2⟩ := h.2.2.2.2.2.2.1
  have h16 := hL.2.2.1
  have h15 := hL.2.1
  unfold fX4_find
  rw [bnd_e, h2]
  exact findA k N (by omega) (by omega) (by omega)
theorem nmD {ln : Nat → Nat} {N M q cc b : Nat} {e a v : Int32} {σ : zSt} (hL : LN ln q cc) (h : DS ln q e b σ) : wp (fX4_placeOf ln N M a σ) (fun _ z => z = σ) ∧ wp (fX4_countOf ln N M a σ) (fun _ z => z = σ) ∧ wp (fX4_nodeOf ln N M a σ) (fun _ z => z = σ) ∧ wp (fX4_isSort ln N M a v σ) (fun _ z => z = σ) ∧ wp (fX4_isValue ln N M a σ) (fun _ z => z = σ) := by
  obtain ⟨k, h1, h2⟩ := h.2.2.2.2.2.2.1
  have h15 := hL.2.1
  have e16 := hL.2.2.1
  have e17 := hL.2.2.2.1
  have e18 := hL.2.2.2.2.1
  have e19 := hL.2.2.2.2.2.1
  have e20 := hL.2.2.2.2.2.2.1
  unfold fX4_placeOf fX4_countOf fX4_nodeOf fX4_isSort fX4_isValue fX4_isValue_b31
  rw [h2]
  by_cases c1 : a < 0
  · rw [if_pos c1, if_pos c1, if_pos c1, if_pos c1, if_pos c1]
    exact ⟨wp_s rfl, wp_s rfl, wp_s rfl, wp_s rfl, wp_s rfl⟩
  · rw [if_neg c1, if_neg c1, if_neg c1, if_neg c1, if_neg c1]
    by_cases c2 : nI k ≤ a
    · rw [if_pos c2, if_pos c2, if_pos c2, if_pos c2, if_pos c2]
      exact ⟨wp_s rfl, wp_s rfl, wp_s rfl, wp_s rfl, wp_s rfl⟩
    · have c3 := ix_in c1 c2 (by omega)
      have i17 : ¬ (a < 0 ∨ ln 17 ≤ a.toNatClampNeg) := by rintro (c | c); exact c1 c; omega
      have i18 : ¬ (a < 0 ∨ ln 18 ≤ a.toNatClampNeg) := by rintro (c | c); exact c1 c; omega
      have i19 : ¬ (a < 0 ∨ ln 19 ≤ a.toNatClampNeg) := by rintro (c | c); exact c1 c; omega
      have i20 : ¬ (a < 0 ∨ ln 20 ≤ a.toNatClampNeg) := by rintro (c | c); exact c1 c; omega
      rw [if_neg c2, if_neg c2, if_neg c2, if_neg c2, if_neg c2, if_neg i18, if_neg i19, if_neg i20, if_neg i17, if_neg i17]
      refine ⟨wp_s rfl, wp_s rfl, wp_s rfl, ?_, ?_⟩
      · split <;> exact wp_s rfl
      · split
        · exact wp_s rfl
        · split <;> exact wp_s rfl
theorem inFrA {ln : Nat → Nat} {N M : Nat} {a : Int32} {σ : zSt} : wp (fX1_inFrame ln N M a σ) (fun _ z => z = σ) := by
  unfold fX1_inFrame
  split <;> exact wp_s rfl
/-- names are added, changed, cut -/
theorem nAddD {ln : Nat → Nat} {N M q cc b : Nat} {w : Int64} {e x y v : Int32} {σ : zSt} (hL : LN ln q cc) (h : DS ln q e b σ) : wp (fX4_add ln N M w x y v σ) (fun _ z => DD ln q e b σ z) := by
  have hh := h
  have hq := hL.1
  have h15 := hL.2.1
  have e16 := hL.2.2.1
  have e17 := hL.2.2.2.1
  have e18 := hL.2.2.2.2.1
  have e19 := hL.2.2.2.2.2.1
  have e20 := hL.2.2.2.2.2.2.1
  obtain ⟨h1, h2, h3, h4, ⟨p, h5, h6⟩, ⟨s, h7, h8⟩, ⟨k, h9, h10⟩, ⟨t, h11, h12⟩, ⟨n, h13, h14⟩⟩ := h
  unfold fX4_add
  rw [h10]
  by_cases c : nI (ln 16) ≤ nI k
  · rw [if_pos c]; exact wp_s ⟨hh, fR_refl⟩
  · have ck : k < ln 15 := by rw [nI_le' (by omega) (by omega)] at c; omega
    rw [if_neg c, nI_clamp (by omega), if_neg (ixN (by omega) (by omega)), bnd_e, zI_B, h10, nI_clamp (by omega), if_neg (ixN (by omega) (by omega)), bnd_e, zI_A, zI_B, h10, nI_clamp (by omega), if_neg (ixN (by omega) (by omega)), bnd_e, zI_A, zI_A, zI_B, h10, nI_clamp (by omega), if_neg (ixN (by omega) (by omega)), bnd_e, zI_A, zI_A, zI_A, zI_B, h10, nI_clamp (by omega), if_neg (ixN (by omega) (by omega)), bnd_e, zI_A, zI_A, zI_A, zI_A, zI_B, h10, bnd_e, nI_1]
    refine wp_s ⟨⟨h1, ?_, ?_, h4, ⟨p, h5, ?_⟩, ⟨s, h7, ?_⟩, ⟨k + 1, by omega, by rw [zI_I, if_pos ⟨rfl, rfl⟩]⟩, ⟨t, h11, ?_⟩, ⟨n, h13, ?_⟩⟩, fR_I (fR_A (fR_A (fR_A (fR_A (fR_B fR_refl) (Or.inl (by omega))) (Or.inl (by omega))) (Or.inl (by omega))) (Or.inl (by omega))) (by unfold okI; omega)⟩
    all_goals rw [zI_I, if_neg (by omega)]; assumption
/-- where E stands, and the E within it -/
def KDd (ln : Nat → Nat) (q : Nat) (K : Int32 → zSt → Option (Int32 × zSt)) : Prop := ∀ cl e b σ, DS ln q e b σ → wp (K cl σ) (fun _ z => DD ln q e b σ z)
theorem pushD {ln : Nat → Nat} {N M q cc b : Nat} {e x y v : Int32} {σ : zSt} (hL : LN ln q cc) (h : DS ln q e b σ) : wp (fX2_push ln N M x y v σ) (fun _ z => DD ln q e b σ z) := by
  have hh := h
  have hq := hL.1
  obtain ⟨h1, h2, h3, h4, ⟨p, h5, h6⟩, ⟨s, h7, h8⟩, ⟨k, h9, h10⟩, ⟨t, h11, h12⟩, ⟨n, h13, h14⟩⟩ := h
  have e21 := hL.2.2.2.2.2.2.2.1
  have e22 := hL.2.2.2.2.2.2.2.2.1
  have e23 := hL.2.2.2.2.2.2.2.2.2.1
  unfold fX2_push
  rw [h12, e21, e22, e23]
  by_cases c : nI 512 ≤ nI t
  · rw [if_pos c]; exact wp_s ⟨hh, fR_refl⟩
  · have ct : t < 512 := by rw [nI_le' (by omega) (by omega)] at c; omega
    rw [if_neg c, nI_clamp (by omega), if_neg (ixN ct (by omega)), bnd_e, zI_A, h12, nI_clamp (by omega), if_neg (ixN ct (by omega)), bnd_e, zI_A, zI_A, h12, nI_clamp (by omega), if_neg (ixN ct (by omega)), bnd_e, zI_A, zI_A, zI_A, h12, bnd_e, nI_1]
    refine wp_s ⟨⟨h1, ?_, ?_, h4, ⟨p, h5, ?_⟩, ⟨s, h7, ?_⟩, ⟨k, h9, ?_⟩, ⟨t + 1, by omega, by rw [zI_I, if_pos ⟨rfl, rfl⟩]⟩, ⟨n, h13, ?_⟩⟩, fR_I (fR_A (fR_A (fR_A fR_refl (Or.inl (by omega))) (Or.inl (by omega))) (Or.inl (by omega))) (by unfold okI; omega)⟩
    all_goals rw [zI_I, if_neg (by omega)]; assumption
theorem wpD {ln : Nat → Nat} {q b b1 : Nat} {e : Int32} {σ : zSt} {α β : Type} {a : Option (α × zSt)} {f : α → zSt → Option (β × zSt)} (h : wp a (fun _ z => DD ln q e b σ z)) (h2 : ∀ r z, DS ln q e b z → wp (f r z) (fun _ y => DD ln q e b1 z y)) : wp (obd a f) (fun _ y => DD ln q e b1 σ y) :=
  wp_obd (wp_mono h (fun r z hz => wp_mono (h2 r z hz.1) (fun _ y hy => DD_tr hy hz.2 (Nat.le_refl _))))
theorem wpE {ln : Nat → Nat} {q b1 : Nat} {e : Int32} {σ : zSt} {α β : Type} {a : Option (α × zSt)} {f : α → zSt → Option (β × zSt)} (h : wp a (fun _ z => z = σ)) (h2 : ∀ r, wp (f r σ) (fun _ y => DD ln q e b1 σ y)) : wp (obd a f) (fun _ y => DD ln q e b1 σ y) :=
  wp_obd (wp_mono h (fun r z hz => by rw [hz]; exact h2 r))
theorem wpS {ln : Nat → Nat} {q b b1 : Nat} {e : Int32} {σ : zSt} {α : Type} {r : α} (h : DS ln q e b σ) (hb : b ≤ b1) : wp (some (r, σ)) (fun _ y => DD ln q e b1 σ y) := wp_s ⟨DS_le h hb, fR_refl⟩
theorem openD {ln : Nat → Nat} {N M q b : Nat} {e : Int32} {σ : zSt} (hN : 1 ≤ N) (h : DS ln q e b σ) : fX2_openOnes ln N M σ = some ((), σ) := by
  unfold fX2_openOnes
  obtain ⟨n, rfl⟩ : ∃ n, N = n + 1 := ⟨N - 1, by omega⟩
  rw [bnd_e, fX2_openOnes_b2, if_neg (by decide), h.2.2.1, if_neg (by decide)]
  unfold fX2_openOnes_b32
  rw [if_pos (by decide)]
theorem num37D {ln : Nat → Nat} {N M q cc b : Nat} {e : Int32} {σ : zSt} (hL : LN ln q cc) (hb : b < 2 ^ 29) (h : DS ln q e b σ) : wp (fX2_number_b37 ln N M σ) (fun _ z => DD ln q e (b + 2) σ z) := by
  unfold fX2_number_b37
  rw [bnd_e, rbC hL.1 h.2.2.2.1.2.1]
  refine wpD (addD2 hL hb h) (fun _ z hz => ?_)
  rw [comeD hz, obd_s, rbT hL.1 hz.2.2.2.1.1]
  exact wp_ret (treeD hL hz)
theorem varD {ln : Nat → Nat} {N M q cc b : Nat} {e a : Int32} {σ : zSt} (hL : LN ln q cc) (hb : b < 2 ^ 29) (h : DS ln q e b σ) : wp (fX2_variable ln N M a σ) (fun _ z => DD ln q e (b + 2) σ z) := by
  unfold fX2_variable
  refine wpE (nmD (v := 0) hL h).1 (fun r1 => wpE (nmD hL h).2.2.2.1 (fun r3 => ?_))
  split
  · rw [rbC hL.1 h.2.2.2.1.2.1]
    refine wpD (addD2 hL hb h) (fun _ z hz => ?_)
    rw [rbT hL.1 hz.2.2.2.1.1]
    exact wp_ret (treeD hL hz)
  · rw [rbC hL.1 h.2.2.2.1.2.1]
    refine wpD (addD2 hL hb h) (fun _ z hz => ?_)
    rw [rbT hL.1 hz.2.2.2.1.1]
    exact wpE inFrA (fun r => wp_ret (treeD hL hz))
theorem call143D {ln : Nat → Nat} {N M q cc b : Nat} {K : Int32 → zSt → Option (Int32 × zSt)} {e x y v : Int32} {σ : zSt} (hL : LN ln q cc) (hb : b < 2 ^ 29) (h : DS ln q e b σ) : wp (fX2_call_b143 ln N M K x y v σ) (fun _ z => DD ln q e (b + 3) σ z) := by
  unfold fX2_call_b143
  refine wpD (leaveD hL.1 h) (fun _ z hz => ?_)
  rw [comeD hz, obd_s, rbC hL.1 hz.2.2.2.1.2.1]
  refine wpE (nmD (v := 0) hL hz).1 (fun r1 => wpD (addD3 hL hb hz) (fun _ u hu => ?_))
  rw [rbT hL.1 hu.2.2.2.1.1]
  exact wpE (nmD (v := 0) hL hu).2.2.1 (fun r => wp_ret (treeD hL hu))
theorem call121D {ln : Nat → Nat} {N M q cc b : Nat} {K : Int32 → zSt → Option (Int32 × zSt)} {e x y v w : Int32} {σ : zSt} (hL : LN ln q cc) (hb : b < 2 ^ 29) (h : DS ln q e b σ) : wp (fX2_call_b121 ln N M K x y v w σ) (fun _ z => DD ln q e (b + 3) σ z) := by
  unfold fX2_call_b121
  refine wpE (nmD (v := 0) hL h).2.1 (fun r => ?_)
  split
  · exact call143D hL hb h
  · rw [failD h, obd_s]
    exact call143D hL hb h
theorem call55D {ln : Nat → Nat} {N M q cc b f : Nat} {K : Int32 → zSt → Option (Int32 × zSt)} {e x y v w i : Int32} {σ : zSt} (hL : LN ln q cc) (hK : KDd ln q K) (hb : b < 2 ^ 29) (h : DS ln q e b σ) : wp (fX2_call_b55 ln N M K (f + 1) x y v w i σ) (fun _ z => DD ln q e (b + 3) σ z) := by
  rw [fX2_call_b55]
  split
  · exact call121D hL hb h
  · refine wpD (hK _ _ _ _ h) (fun r z hz => ?_)
    rw [rbT hL.1 hz.2.2.2.1.1]
    refine wpD (setND hL hz) (fun _ u hu => ?_)
    rw [bnd_e, hu.2.2.1, if_neg (by decide)]
    exact call121D hL hb hu
theorem call21D {ln : Nat → Nat} {N M q cc b : Nat} {K : Int32 → zSt → Option (Int32 × zSt)} {e x y : Int32} {σ : zSt} (hL : LN ln q cc) (hN : 1 ≤ N) (hK : KDd ln q K) (hb : b < 2 ^ 29) (h : DS ln q e b σ) : wp (fX2_call_b21 ln N M K x y σ) (fun _ z => DD ln q e (b + 3) σ z) := by
  unfold fX2_call_b21
  refine wpD (enterD hL.1 h) (fun _ z hz => ?_)
  obtain ⟨n, rfl⟩ : ∃ n, N = n + 1 := ⟨N - 1, by omega⟩
  rw [comeD hz, obd_s, bnd_e, bnd_e, hz.2.2.1, if_neg (by decide), bnd_e]
  exact call55D hL hK hb hz
theorem callD {ln : Nat → Nat} {N M q cc b : Nat} {K : Int32 → zSt → Option (Int32 × zSt)} {e x y : Int32} {σ : zSt} (hL : LN ln q cc) (hN : 1 ≤ N) (hK : KDd ln q K) (hb : b < 2 ^ 29) (h : DS ln q e b σ) : wp (fX2_call ln N M K x y σ) (fun _ z => DD ln q e (b + 3) σ z) := by
  unfold fX2_call
  refine wpE (nmD hL h).2.2.2.1 (fun r => ?_)
  split
  · rw [failD h, obd_s]
    exact call21D hL hN hK hb h
  · exact call21D hL hN hK hb h
theorem index21D {ln : Nat → Nat} {N M q cc b : Nat} {K : Int32 → zSt → Option (Int32 × zSt)} {e : Int32} {σ : zSt} (hL : LN ln q cc) (hK : KDd ln q K) (h : DS ln q e b σ) : wp (fX2_index_b21 ln N M K σ) (fun _ z => DD ln q e b σ z) := by
  unfold fX2_index_b21
  refine wpD (enterD hL.1 h) (fun _ z hz => ?_)
  rw [comeD hz, obd_s]
  refine wpD (hK _ _ _ _ hz) (fun r u hu => wpD (leaveD hL.1 hu) (fun _ y hy => ?_))
  rw [comeD hy, obd_s]
  exact wpS hy (Nat.le_refl _)
theorem indexD {ln : Nat → Nat} {N M q cc b : Nat} {K : Int32 → zSt → Option (Int32 × zSt)} {e x y : Int32} {σ : zSt} (hL : LN ln q cc) (hK : KDd ln q K) (h : DS ln q e b σ) : wp (fX2_index ln N M K x y σ) (fun _ z => DD ln q e b σ z) := by
  unfold fX2_index
  refine wpE (nmD hL h).2.2.2.1 (fun r => ?_)
  split
  · rw [failD h, obd_s]
    exact index21D hL hK h
  · exact index21D hL hK h
/-- behind [ E ] of an item -/
theorem itemD {ln : Nat → Nat} {N M q cc b : Nat} {e x r : Int32} {σ : zSt} (hL : LN ln q cc) (hb : b < 2 ^ 29) (h : DS ln q e b σ) : wp (rbd (zR σ 5 9) 13 14 (fun q15 => obd (fX4_placeOf ln N M x σ) (fun r16 σ17 => obd (fX4_countOf ln N M x σ17) (fun r18 σ19 => obd (fX0_addWithTwo ln N M q15 (6 : Int32) r16 r18 σ19) (fun _ σ21 => rbd (zR σ21 5 8) 11 12 (fun q22 => obd (fX4_placeOf ln N M x σ21) (fun r23 σ24 => obd (fX4_countOf ln N M x σ24) (fun r25 σ26 => obd (fX9_add ln N M q22 (4 : Int32) r23 r r25 σ26) (fun r27 σ28 => some (r27, σ28)))))))))) (fun _ z => DD ln q e (b + 3) σ z) := by
  rw [rbC hL.1 h.2.2.2.1.2.1]
  refine wpE (nmD (v := 0) hL h).1 (fun r1 => wpE (nmD (v := 0) hL h).2.1 (fun r2 => wpD (addD3 hL hb h) (fun _ z hz => ?_)))
  rw [rbT hL.1 hz.2.2.2.1.1]
  exact wpE (nmD (v := 0) hL hz).1 (fun r3 => wpE (nmD (v := 0) hL hz).2.1 (fun r4 => wp_ret (treeD hL hz)))
theorem named37D {ln : Nat → Nat} {N M q cc b : Nat} {K : Int32 → zSt → Option (Int32 × zSt)} {e x y : Int32} {σ : zSt} (hL : LN ln q cc) (hN : 1 ≤ N) (hK : KDd ln q K) (hb : b < 2 ^ 29) (h : DS ln q e b σ) : wp (fX2_named_b37 ln N M K x y σ) (fun _ z => DD ln q e (b + 2) σ z) := by
  unfold fX2_named_b37
  refine wpD (takeD hL.1 h) (fun _ z hz => ?_)
  rw [comeD hz, obd_s, hz.2.2.1, if_neg (by decide), if_neg (by decide)]
  unfold fX2_named_b157
  refine wpE (nmD (v := 0) hL hz).2.2.2.2 (fun r => ?_)
  split
  · rw [bnd_e]
    have hz2 := DS_I (v := x) hL.1 hz (show dI q 5 7 by unfold dI; omega)
    exact wp_ret (wp_mono (varD hL hb hz2) (fun _ y hy => DD_tr hy (fR_I fR_refl (by unfold okI; omega)) (Nat.le_refl _)))
  · exact wp_ret (varD hL hb hz)
