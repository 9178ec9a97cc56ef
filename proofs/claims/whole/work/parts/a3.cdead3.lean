/-! THE CLASS: the rest of an E where something is wrong already -/
theorem rankA {ln : Nat → Nat} {N M : Nat} {k : Int32} {σ : zSt} : wp (fX2_rankOf ln N M k σ) (fun _ z => z = σ) := by
  unfold fX2_rankOf
  by_cases c1 : k < 0
  · rw [if_pos c1]; exact wp_s rfl
  · rw [if_neg c1]
    by_cases c2 : (29 : Int32) ≤ k
    · rw [if_pos c2]; exact wp_s rfl
    · have c3 := ix_in (n := 29) c1 c2 (by omega)
      rw [if_neg c2, if_neg (by rintro (c | c); exact c1 c; omega)]
      exact wp_s rfl
theorem rankM {ln : Nat → Nat} {N M : Nat} {σ : zSt} : fX2_rankOf ln N M (-1) σ = some (0, σ) := by
  unfold fX2_rankOf
  rw [if_pos (by decide)]
theorem DS_top {ln : Nat → Nat} {q b t : Nat} {e : Int32} {σ : zSt} (hq : q = 9 ∨ q = 10) (h : DS ln q e b σ) (ht : t ≤ 512) : DS ln q e b (zsI σ 5 6 (nI t)) := by
  obtain ⟨h1, h2, h3, h4, ⟨p, h5, h6⟩, ⟨s, h7, h8⟩, ⟨k, h9, h10⟩, -, ⟨n, h13, h14⟩⟩ := h
  refine ⟨h1, ?_, ?_, h4, ⟨p, h5, ?_⟩, ⟨s, h7, ?_⟩, ⟨k, h9, ?_⟩, ⟨t, ht, by rw [zI_I, if_pos ⟨rfl, rfl⟩]⟩, ⟨n, h13, ?_⟩⟩
  all_goals rw [zI_I, if_neg (by omega)]; assumption
theorem close10D {ln : Nat → Nat} {N M q cc : Nat} {e base : Int32} (hL : LN ln q cc) : ∀ (m f b : Nat) (nd : Int32) (σ : zSt), m ≤ 512 → m < f → b + m < 2 ^ 29 → DS ln q e b σ → wp (fX2_closeOnes_b10 ln N M f base nd (nI m - 1) σ) (fun _ z => DD ln q e (b + m) σ z) := by
  have e21 := hL.2.2.2.2.2.2.2.1
  intro m
  induction m with
  | zero =>
    intro f b nd σ _ hf _ h
    obtain ⟨f, rfl⟩ : ∃ g, f = g + 1 := ⟨f - 1, by omega⟩
    rw [fX2_closeOnes_b10, show nI 0 - 1 = -1 from rfl]
    by_cases c : (-1 : Int32) < base
    · rw [if_pos c]; exact wpS h (by omega)
    · rw [if_neg c, if_pos (by decide)]; exact wpS h (by omega)
  | succ m ih =>
    intro f b nd σ hm hf hb h
    obtain ⟨f, rfl⟩ : ∃ g, f = g + 1 := ⟨f - 1, by omega⟩
    rw [fX2_closeOnes_b10, nI_pred, e21]
    by_cases c : nI m < base
    · rw [if_pos c]; exact wpS h (by omega)
    rw [if_neg c, if_neg (nI_pos (by omega)), if_neg (fun q => by rw [nI_le' (by omega) (by omega)] at q; omega), nI_clamp (by omega), if_neg (ixN (by omega) (by omega))]
    by_cases c2 : zA σ 21 m < 24
    · rw [if_pos c2]; exact wpS h (by omega)
    rw [if_neg c2, if_neg (ixN (by omega) (by omega))]
    by_cases c3 : zA σ 21 m ≤ 26
    · rw [if_pos c3, rbC hL.1 h.2.2.2.1.2.1, if_neg (ixN (by omega) (by omega))]
      refine wpD (addD hL (by omega) h) (fun _ z hz => ?_)
      rw [rbT hL.1 hz.2.2.2.1.1, if_neg (ixN (by omega) (by omega))]
      refine wpD (treeD hL hz) (fun r u hu => wpD (leaveD hL.1 hu) (fun _ y hy => ?_))
      rw [bnd_e, bnd_e, show nI m + -1 = nI m - 1 from (Int32.sub_eq_add_neg ..).symm]
      refine wp_mono (ih f (b + 1) r _ (by omega) (by omega) (by omega) (DS_top hL.1 hy (by omega))) (fun _ v hv => DD_tr hv (fR_I fR_refl (by unfold okI; omega)) (by omega))
    · rw [if_neg c3]; exact wpS h (by omega)
theorem closeD {ln : Nat → Nat} {N M q cc b : Nat} {e base nd : Int32} {σ : zSt} (hL : LN ln q cc) (hN : 5000 ≤ N) (hb : b < 2 ^ 28) (h : DS ln q e b σ) : wp (fX2_closeOnes ln N M nd base σ) (fun _ z => DD ln q e (b + 512) σ z) := by
  obtain ⟨t, h1, h2⟩ := h.2.2.2.2.2.2.2.1
  unfold fX2_closeOnes
  rw [bnd_e, h2]
  exact wp_mono (close10D hL t N b nd σ h1 (by omega) (by omega) h) (fun _ z hz => ⟨DS_le hz.1 (by omega), hz.2⟩)
theorem settle60T {ln : Nat → Nat} {N M q b : Nat} {e : Int32} {σ : zSt} (hq : q = 9 ∨ q = 10) (h : DS ln q e b σ) : wp (fX2_settle_b60 ln N M σ) (fun _ z => DD ln q e b σ z ∧ zI z 5 6 = zI σ 5 6) := by
  unfold fX2_settle_b60
  split
  · exact wp_s ⟨⟨h, fR_refl⟩, rfl⟩
  · rw [failD h, obd_s, bnd_e]
    exact wp_s ⟨⟨DS_I hq h (by unfold dI; omega), fR_I fR_refl (by unfold okI; omega)⟩, by rw [zI_I, if_neg (by omega)]⟩
theorem settleT {ln : Nat → Nat} {N M q b : Nat} {e cl : Int32} {σ : zSt} (hq : q = 9 ∨ q = 10) (h : DS ln q e b σ) : wp (fX2_settle ln N M cl σ) (fun _ z => DD ln q e b σ z ∧ zI z 5 6 = zI σ 5 6) := by
  have h34 : ∀ s0, wp (fX2_settle_b34 ln N M s0 σ) (fun _ z => DD ln q e b σ z ∧ zI z 5 6 = zI σ 5 6) := by
    intro s0
    unfold fX2_settle_b34
    split
    · refine wp_obd (wp_mono rankA (fun r z hz => ?_))
      rw [hz]
      split
      · rw [failHD h, obd_s]; exact settle60T hq h
      · exact settle60T hq h
    · exact settle60T hq h
  unfold fX2_settle fX2_settle_b29 fX2_settle_b33
  split
  · exact h34 1
  · split
    · split
      · exact h34 1
      · exact h34 0
    · exact h34 0
theorem settleD {ln : Nat → Nat} {N M q b : Nat} {e cl : Int32} {σ : zSt} (hq : q = 9 ∨ q = 10) (h : DS ln q e b σ) : wp (fX2_settle ln N M cl σ) (fun _ z => DD ln q e b σ z) := wp_mono (settleT hq h) (fun _ _ hz => hz.1)
theorem choiceD {ln : Nat → Nat} {N M q cc b : Nat} {e x y : Int32} {σ : zSt} (hL : LN ln q cc) (hb : b + 8 < 2 ^ 29) (h : DS ln q e b σ) : wp (fX2_endChoice ln N M x y σ) (fun _ z => DD ln q e (b + 8) σ z) := by
  unfold fX2_endChoice fX2_endChoice_b79
  rw [rbC hL.1 h.2.2.2.1.2.1, bnd_e, rbC hL.1 h.2.2.2.1.2.1, bnd_e, rbC hL.1 h.2.2.2.1.2.1]
  refine wpD (addD2 hL (by omega) h) (fun _ z hz => ?_)
  rw [rbC hL.1 hz.2.2.2.1.2.1]
  refine wpD (addD2 hL (by omega) hz) (fun _ u hu => ?_)
  rw [rbC hL.1 hu.2.2.2.1.2.1]
  refine wpD (addD2 hL (by omega) hu) (fun _ v hv => ?_)
  rw [rbC hL.1 hv.2.2.2.1.2.1]
  refine wpD (addD2 hL (by omega) hv) (fun _ w hw => ?_)
  rw [rbC hL.1 hw.2.2.2.1.2.1]
  split
  · exact wp_ret (setCD hL hw)
  · exact wp_ret (setCD hL hw)
theorem join11D {ln : Nat → Nat} {N M q cc : Nat} {e base rank : Int32} (hL : LN ln q cc) : ∀ (m f b : Nat) (nd : Int32) (σ : zSt), m ≤ 512 → m < f → b + 8 * m + 8 < 2 ^ 29 → DS ln q e b σ → wp (fX2_joinAll_b11 ln N M f base rank nd (nI m - 1) σ) (fun _ z => DD ln q e (b + 8 * m) σ z) := by
  have e21 := hL.2.2.2.2.2.2.2.1
  have e22 := hL.2.2.2.2.2.2.2.2.1
  have e23 := hL.2.2.2.2.2.2.2.2.2.1
  intro m
  induction m with
  | zero =>
    intro f b nd σ _ hf _ h
    obtain ⟨f, rfl⟩ : ∃ g, f = g + 1 := ⟨f - 1, by omega⟩
    rw [fX2_joinAll_b11, show nI 0 - 1 = -1 from rfl]
    by_cases c : (-1 : Int32) < base
    · rw [if_pos c]; exact wpS h (by omega)
    · rw [if_neg c, if_pos (by decide)]; exact wpS h (by omega)
  | succ m ih =>
    intro f b nd σ hm hf hb h
    obtain ⟨f, rfl⟩ : ∃ g, f = g + 1 := ⟨f - 1, by omega⟩
    rw [fX2_joinAll_b11, nI_pred, e21]
    by_cases c : nI m < base
    · rw [if_pos c]; exact wpS h (by omega)
    rw [if_neg c, if_neg (nI_pos (by omega)), if_neg (fun q => by rw [nI_le' (by omega) (by omega)] at q; omega), nI_clamp (by omega), if_neg (ixN (by omega) (by omega)), bnd_e]
    refine wpE rankA (fun r => ?_)
    by_cases cr : rank ≤ r
    · rw [if_pos cr]
      have h92 : ∀ (z : zSt) (b1 : Nat), b1 ≤ b + 8 → DS ln q e b1 z → wp (fX2_joinAll_b92 ln N M (fX2_joinAll_b11 ln N M f) base rank nd (nI m) (zA σ 21 m) z) (fun _ y => DD ln q e (b + 8 * (m + 1)) z y) := by
        intro z b1 hb1 hz
        unfold fX2_joinAll_b92
        rw [rbT hL.1 hz.2.2.2.1.1, e22, nI_clamp (by omega), if_neg (ixN (by omega) (by omega))]
        refine wpD (treeD hL hz) (fun r2 y hy => ?_)
        rw [bnd_e, bnd_e, show nI m + -1 = nI m - 1 from (Int32.sub_eq_add_neg ..).symm]
        exact wp_mono (ih f b1 r2 _ (by omega) (by omega) (by omega) (DS_top hL.1 hy (by omega))) (fun _ v hv => DD_tr hv (fR_I fR_refl (by unfold okI; omega)) (by omega))
      have h67 : wp (fX2_joinAll_b67 ln N M (fX2_joinAll_b11 ln N M f) base rank nd (nI m) (zA σ 21 m) σ) (fun _ y => DD ln q e (b + 8 * (m + 1)) σ y) := by
        unfold fX2_joinAll_b67
        rw [e23, nI_clamp (by omega), if_neg (ixN (by omega) (by omega))]
        exact wpD (choiceD hL (by omega) h) (fun _ z hz => h92 z _ (Nat.le_refl _) hz)
      by_cases c8 : zA σ 21 m = 8
      · rw [if_pos c8]; exact h67
      · rw [if_neg c8]
        by_cases c9 : zA σ 21 m = 9
        · rw [if_pos c9]; exact h67
        · rw [if_neg c9, rbC hL.1 h.2.2.2.1.2.1]
          exact wpD (addD hL (by omega) h) (fun _ z hz => h92 z _ (by omega) hz)
    · rw [if_neg cr]; exact wpS h (by omega)
theorem joinD {ln : Nat → Nat} {N M q cc b : Nat} {e base nd rank : Int32} {σ : zSt} (hL : LN ln q cc) (hN : 5000 ≤ N) (hb : b < 2 ^ 28) (h : DS ln q e b σ) : wp (fX2_joinAll ln N M nd base rank σ) (fun _ z => DD ln q e (b + 4096) σ z) := by
  obtain ⟨t, h1, h2⟩ := h.2.2.2.2.2.2.2.1
  unfold fX2_joinAll
  rw [bnd_e, h2]
  exact wp_mono (join11D hL t N b nd σ h1 (by omega) (by omega) h) (fun _ z hz => ⟨DS_le hz.1 (by omega), hz.2⟩)
/-- an E in the middle, behind a sign's part -/
def restX (ln : Nat → Nat) (N M : Nat) (K : Int32 → zSt → Option (Int32 × zSt)) (n : Nat) (cl base x4 nd : Int32) (σ : zSt) : Option (Int32 × zSt) :=
  obd (fX2_closeOnes ln N M nd base σ) (fun r9 σ10 =>
  obd (fX2_settle ln N M cl σ10) (fun _ σ12 =>
  obd (fX2_rankOf ln N M (zI σ12 1 3) σ12) (fun r13 σ14 =>
  obd (fX2_joinAll ln N M r9 base r13 σ14) (fun r15 σ16 =>
  if r13 = 0 then fX2_expression_b90 ln N M K base r15 σ16
  else obd (fX2_openTwo ln N M r15 σ16) (fun _ σ18 => obd (fX7_come ln N M σ18) (fun _ σ20 => bnd (x4 + (1 : Int32)) (fun x21 => fX2_expression_b10 ln N M K n cl base r15 x21 σ20)))))))
theorem exp10 {ln : Nat → Nat} {N M n : Nat} {K : Int32 → zSt → Option (Int32 × zSt)} {cl base nd x4 : Int32} {σ : zSt} : fX2_expression_b10 ln N M K (n + 1) cl base nd x4 σ = (if zI σ 1 1 < x4 then fX2_expression_b90 ln N M K base nd σ else obd (fX2_openOnes ln N M σ) (fun _ σ6 => obd (fX2_operand ln N M K σ6) (fun r7 σ8 => restX ln N M K n cl base x4 r7 σ8))) := rfl
theorem exp90D {ln : Nat → Nat} {N M q b t : Nat} {K : Int32 → zSt → Option (Int32 × zSt)} {e nd : Int32} {σ : zSt} (hq : q = 9 ∨ q = 10) (ht : t ≤ 512) (h : DS ln q e b σ) : wp (fX2_expression_b90 ln N M K (nI t) nd σ) (fun _ z => DD ln q e b σ z) := by
  unfold fX2_expression_b90
  rw [bnd_e]
  exact wp_s ⟨DS_top hq h ht, fR_I fR_refl (by unfold okI; omega)⟩
theorem restD {ln : Nat → Nat} {N M q cc b n t : Nat} {K : Int32 → zSt → Option (Int32 × zSt)} {e cl x4 nd : Int32} {σ : zSt} (hL : LN ln q cc) (hN : 5000 ≤ N) (hb : b < 2 ^ 27) (ht : t ≤ 512) (h : DS ln q e b σ) : wp (restX ln N M K n cl (nI t) x4 nd σ) (fun _ z => DD ln q e (b + 4608) σ z) := by
  unfold restX
  refine wpD (closeD hL hN (by omega) h) (fun r9 z hz => wpD (settleD hL.1 hz) (fun _ u hu => ?_))
  rw [hu.2.2.1, rankM, obd_s]
  refine wpD (joinD hL hN (by omega) hu) (fun r15 y hy => ?_)
  rw [if_pos rfl]
  exact wp_mono (exp90D hL.1 ht hy) (fun _ v hv => ⟨DS_le hv.1 (by omega), hv.2⟩)
theorem operD {ln : Nat → Nat} {N M q b : Nat} {K : Int32 → zSt → Option (Int32 × zSt)} {e : Int32} {σ : zSt} (h : DS ln q e b σ) : fX2_operand ln N M K σ = some (-1, σ) := by
  unfold fX2_operand
  rw [h.2.2.1, bnd_e, if_neg (by decide), if_neg (by decide), if_neg (by decide), if_neg (by decide), if_neg (by decide), if_neg (by decide), if_neg (by decide), if_neg (by decide), if_neg (by decide), if_neg (by decide), failHD h, obd_s]
/-- an E where something is wrong as it begins -/
theorem close10E {ln : Nat → Nat} {N M q cc b f t : Nat} {e nd : Int32} {σ : zSt} (ht : t ≤ 512) : fX2_closeOnes_b10 ln N M (f + 1) (nI t) nd (nI t - 1) σ = some (nd, σ) := by
  rw [fX2_closeOnes_b10, if_pos]
  cases t with
  | zero => decide
  | succ t => rw [nI_pred]; exact nI_lt (by omega) (by omega)
theorem join11E {ln : Nat → Nat} {N M f t : Nat} {rank nd : Int32} {σ : zSt} (ht : t ≤ 512) : fX2_joinAll_b11 ln N M (f + 1) (nI t) rank nd (nI t - 1) σ = some (nd, σ) := by
  rw [fX2_joinAll_b11, if_pos]
  cases t with
  | zero => decide
  | succ t => rw [nI_pred]; exact nI_lt (by omega) (by omega)
theorem expD {ln : Nat → Nat} {N M q cc d : Nat} (hL : LN ln q cc) (hN : 5000 ≤ N) : KDd ln q (fX2_expression ln N M (d + 1)) := by
  intro cl e b σ h
  show wp (fX2_expressionB ln N M (fX2_expression ln N M d) cl σ) _
  unfold fX2_expressionB
  obtain ⟨t, h1, h2⟩ := h.2.2.2.2.2.2.2.1
  obtain ⟨n, h3, h4⟩ := h.2.2.2.2.2.2.2.2
  obtain ⟨N', hN'⟩ : ∃ n, N = n + 1 := ⟨N - 1, by omega⟩
  rw [bnd_e, bnd_e, bnd_e, h2]
  have key : wp (fX2_expression_b10 ln N M (fX2_expression ln N M d) (N' + 1) cl (nI t) (-1) 0 σ) (fun _ z => DD ln q e b σ z) := by
    rw [exp10, h4, if_neg (show ¬ nI n < 0 from nI_pos (by omega)), openD (by omega) h, obd_s, operD h, obd_s]
    unfold restX fX2_closeOnes fX2_joinAll
    rw [bnd_e, h2]
    conv => arg 1; arg 1; rw [hN']; rw [close10E (q := q) (cc := cc) (b := b) (e := e) h1]
    rw [obd_s]
    refine wp_obd (wp_mono (settleT hL.1 h) (fun _ u hu => ?_))
    obtain ⟨hu, h56⟩ := hu
    rw [hu.1.2.2.1, rankM, obd_s, bnd_e, h56, h2, hN', join11E h1, obd_s, if_pos rfl]
    exact wp_mono (exp90D hL.1 h1 hu.1) (fun _ v hv => DD_tr hv hu.2 (Nat.le_refl _))
  rw [← hN'] at key
  exact key
