/-! THE CLASS: signs of two parts -/
section
variable {ln : Nat → Nat} {N M q cc : Nat} {x : Nat → Int32} {n tc : Nat} {G : gE} {L : lE} {np : Nat} {fnd st : Nat → Int32} {mu : Int32} {tk : yTok} {c ns s p t D : Nat} {σ : zSt} {base lo p0 : Nat}
theorem setC {h : Nat} {v : Int32} (hL : LN ln q cc) (hh : h < 2 ^ 31) : ∃ z, fX0_set ln N M (q + 4) (nI h) v σ = some ((), z) ∧ (h < ln (q + 36) → zA z (q + 36) h = v) ∧ (∀ a i, (a ≠ q + 36 ∨ i ≠ h) → zA z a i = zA σ a i) ∧ (∀ o k, zI z o k = zI σ o k) ∧ (∀ o k, zL z o k = zL σ o k) ∧ (∀ o k, zR z o k = zR σ o k) ∧ (∀ a i, zB z a i = zB σ a i) := by
  unfold fX0_set
  have hcc : ln (q + 36) ≤ 4096 := by have := hL.2.2.2.2.2.2.2.2.2.2.2; omega
  rw [show q + 4 + 32 = q + 36 by omega, if_neg (nI_pos hh)]
  by_cases e : ln (q + 36) ≤ h
  · rw [if_pos ((nI_le' (by omega) hh).mpr e)]
    exact ⟨σ, rfl, fun e2 => by omega, fun _ _ _ => rfl, fun _ _ => rfl, fun _ _ => rfl, fun _ _ => rfl, fun _ _ => rfl⟩
  · rw [if_neg (fun z => e ((nI_le' (by omega) hh).mp z)), nI_clamp hh, if_neg (ixN (by omega) (by omega)), bnd_e]
    refine ⟨_, rfl, fun _ => by rw [zA_A, if_pos ⟨rfl, rfl⟩], fun a i h2 => by rw [zA_A, if_neg (by omega)], fun _ _ => rfl, fun _ _ => rfl, fun _ _ => rfl, fun _ _ => rfl⟩
def e4S (ln : Nat → Nat) (q : Nat) (σ : zSt) (p : Nat) : zSt := ckS ln q (ckS ln q (ckS ln q (ckS ln q σ p [31, nI (p + 6)]) (p + 2) [1, 1]) (p + 4) [30, nI (p + 8)]) (p + 6) [1, 0]
theorem e4_fX {s1 T : Nat} : fX q s1 p T σ (e4S ln q σ p) := by
  unfold e4S
  exact fX_ck (fX_ck (fX_ck (fX_ck fX_refl (Nat.le_refl _)) (by omega)) (by omega)) (by omega)
theorem e4_CV (hL : LN ln q cc) (hV : CV ln q x n tc G L np fnd mu tk c ns s p t σ) : CV ln q x n tc G L np fnd mu tk c ns s (p + 8) t (e4S ln q σ p) := by
  unfold e4S
  obtain ⟨hV1, -⟩ := ck_CV (l := [31, nI (p + 6)]) hL hV
  obtain ⟨hV2, -⟩ := ck_CV (p := p + 2) (l := [1, 1]) hL hV1
  obtain ⟨hV3, -⟩ := ck_CV (p := p + 4) (l := [30, nI (p + 8)]) hL hV2
  obtain ⟨hV4, -⟩ := ck_CV (p := p + 6) (l := [1, 0]) hL hV3
  exact hV4
theorem e4_cd (hq : q = 9 ∨ q = 10) : cdC ln q (e4S ln q σ p) p [31, nI (p + 6), 1, 1, 30, nI (p + 8), 1, 0] := by
  unfold e4S
  have h1 : ∀ u : zSt, fX q 0 (p + 2) 0 u (ckS ln q u (p + 2) [1, 1]) := fun u => fX_ck fX_refl (Nat.le_refl _)
  have h2 : ∀ u : zSt, fX q 0 (p + 4) 0 u (ckS ln q u (p + 4) [30, nI (p + 8)]) := fun u => fX_ck fX_refl (Nat.le_refl _)
  have h3 : ∀ u : zSt, fX q 0 (p + 6) 0 u (ckS ln q u (p + 6) [1, 0]) := fun u => fX_ck fX_refl (Nat.le_refl _)
  refine cdC_app (l := [31, nI (p + 6)]) (r := [1, 1, 30, nI (p + 8), 1, 0]) (cdC_fX hq (h3 _) (by show p + 2 ≤ _; omega) (cdC_fX hq (h2 _) (by show p + 2 ≤ _; omega) (cdC_fX hq (h1 _) (Nat.le_refl _) ckS_cd))) ?_
  refine cdC_app (l := [1, 1]) (r := [30, nI (p + 8), 1, 0]) (cdC_fX hq (h3 _) (by show p + 2 + 2 ≤ _; omega) (cdC_fX hq (h2 _) (Nat.le_refl _) ckS_cd)) ?_
  refine cdC_app (l := [30, nI (p + 8)]) (r := [1, 0]) (cdC_fX hq (h3 _) (Nat.le_refl _) ckS_cd) ?_
  exact ckS_cd
/-- behind the second part of && and || -/
theorem endC {h : Nat} {sg : Int32} (hL : LN ln q cc) (hV : CV ln q x n tc G L np fnd mu tk c ns s p t σ) (hp : p ≤ 10500) (hh : h < p) (hsg : sg = 8 ∨ sg = 9) :
    ∃ z, fX2_endChoice ln N M sg (nI h) σ = some ((), z) ∧ CV ln q x n tc G L np fnd mu tk c ns s (p + 8) t z ∧ (∀ s1 T, fX q s1 h T σ z) ∧ cdC ln q z p [31, nI (p + 6), 1, 1, 30, nI (p + 8), 1, 0] ∧ (h < ln (q + 36) → zA z (q + 36) h = if sg = 8 then nI (p + 6) else nI (p + 8)) ∧ (∀ i, i < p → i ≠ h → zA z (q + 36) i = zA σ (q + 36) i) := by
  have hcc : ln (q + 36) ≤ 4096 := by have := hL.2.2.2.2.2.2.2.2.2.2.2; omega
  have hq := hL.1
  have e6 : nI p + 6 = nI (p + 6) := nI_add p 6
  have e8 : nI p + 8 = nI (p + 8) := nI_add p 8
  obtain ⟨hV1, -⟩ := ck_CV (l := [31, nI (p + 6)]) hL hV
  obtain ⟨hV2, -⟩ := ck_CV (p := p + 2) (l := [1, 1]) hL hV1
  obtain ⟨hV3, -⟩ := ck_CV (p := p + 4) (l := [30, nI (p + 8)]) hL hV2
  have hV4 := e4_CV hL hV
  have hcd := e4_cd (ln := ln) (p := p) (σ := σ) hq
  have hfx : ∀ s1 T, fX q s1 p T σ (e4S ln q σ p) := fun _ _ => e4_fX
  have hform : ∀ v, (v = if sg = 8 then nI (p + 6) else nI (p + 8)) → fX2_endChoice ln N M sg (nI h) σ = obd (fX0_set ln N M (q + 4) (nI h) v (e4S ln q σ p)) (fun _ σ19 => some ((), σ19)) := by
    intro v hv
    unfold fX2_endChoice fX2_endChoice_b79
    rw [rbC hL.1 hV.1.2.1.2.1, bnd_e, rbC hL.1 hV.1.2.1.2.1, bnd_e, rbC hL.1 hV.1.2.1.2.1, hV.2.2.2.2.2.2.1, e6, e8, addC2 hcc hV.2.2.2.2.2.2.1 (by omega), obd_s, rbC hL.1 hV1.1.2.1.2.1, addC2 (p := p + 2) hcc hV1.2.2.2.2.2.2.1 (by omega), obd_s, rbC hL.1 hV2.1.2.1.2.1, addC2 (p := p + 4) hcc hV2.2.2.2.2.2.2.1 (by omega), obd_s, rbC hL.1 hV3.1.2.1.2.1, addC2 (p := p + 6) hcc hV3.2.2.2.2.2.2.1 (by omega), obd_s]
    show rbd (zR (e4S ln q σ p) 5 9) 13 14 (fun q17 => if sg = 8 then obd (fX0_set ln N M q17 (nI h) (nI (p + 6)) (e4S ln q σ p)) (fun _ σ19 => some ((), σ19)) else obd (fX0_set ln N M q17 (nI h) (nI (p + 8)) (e4S ln q σ p)) (fun _ σ19 => some ((), σ19))) = _
    rw [rbC hL.1 hV4.1.2.1.2.1, hv]
    by_cases e : sg = 8
    · rw [if_pos e, if_pos e]
    · rw [if_neg e, if_neg e]
  obtain ⟨z, z1, z2, z3, z4, z5, z6, z7⟩ := setC (N := N) (M := M) (σ := e4S ln q σ p) (h := h) (v := if sg = 8 then nI (p + 6) else nI (p + 8)) hL (by omega)
  have hz : ∀ s1 T, fX q s1 h T (e4S ln q σ p) z := fun s1 T => ⟨fun o k _ => z4 o k, fun o k _ => z5 o k, fun o k => z6 o k, fun a i hn => z3 a i (by unfold eA at hn; omega), fun a i => z7 a i⟩
  refine ⟨z, ?_, CV_f hL.1 hV4 (⟨fun o k _ => z4 o k, fun o k _ => z5 o k, fun o k => z6 o k, fun a i hn => z3 a i (by unfold eA at hn; omega), fun a i => z7 a i⟩) (fun k => z4 1 k) (fun k => z5 1 k) ((z4 _ _).trans hV4.2.2.2.1) ((z4 _ _).trans hV4.2.2.2.2.1) ((z4 _ _).trans hV4.2.2.2.2.2.1) ((z4 _ _).trans hV4.2.2.2.2.2.2.1) ((z4 _ _).trans hV4.2.2.2.2.2.2.2.1) ((z4 _ _).trans hV4.2.2.2.2.2.2.2.2), fun s1 T => fX_trans (fX_trans (fX_refl (s := s1) (p := h) (t := T)) (hfx s1 T) (Nat.le_refl _) (by omega) (Nat.le_refl _)) (hz s1 T) (Nat.le_refl _) (Nat.le_refl _) (Nat.le_refl _), ?_, z2, fun i h1 h2 => ?_⟩
  · rw [hform _ rfl, z1, obd_s]
  · intro hl j v hj
    rw [z3 _ _ (by omega)]
    exact hcd hl j v hj
  · rw [z3 _ _ (Or.inr h2)]
    exact (hfx 0 0).2.2.2.1 _ _ (by unfold eA; omega)
/-- the sign o gets its second part -/
theorem join1 {o : Int32 × fT} {B : fT} {r : yOps} {s s2 s' p' tp' : Nat} {nd : Int32} (hL : LN ln q cc) (hn : n ≤ 512) (hro : 0 < rk o.1) (h : CV ln q x n tc G L np fnd mu tk c ns s2 (p + (gl B).2) (tp' + 1) σ) (hs2 : s2 < ln 15) (hr : rOc ln q fnd st np σ base lo p0 (o :: r) (tp' + 1) s p) (hr' : rOc ln q fnd st np σ base lo p0 r tp' s' p') (hfst : (crp σ q fnd np o.2).1 s' s (zA σ 22 tp')) (hcdo : cdC ln q σ p' ((gn st (nI np) o.2).2 p' ++ hdL o.1 (p' + (gl o.2).2))) (hpp : p = p' + (gl o.2).2 + (hdL o.1 (p' + (gl o.2).2)).length) (hhole : o.1 = 8 ∨ o.1 = 9 → zA σ 23 tp' = nI (p - 1)) (htp : tp' < 512)
    (hc : (crp σ q fnd np B).1 s s2 nd) (hcd : cdC ln q σ p ((gn st (nI np) B).2 p)) (hpb : p + (gl B).2 + 8 ≤ 10500) (k11 : Int32 → Int32 → Int32 → Int32 → zSt → Option (Int32 × zSt)) (kk : Int32) :
    ∃ z, (if o.1 = 8 then fX2_joinAll_b67 ln N M k11 (nI base) kk nd (nI tp') o.1 σ else if o.1 = 9 then fX2_joinAll_b67 ln N M k11 (nI base) kk nd (nI tp') o.1 σ else rbd (zR σ 5 9) 13 14 (fun q12 => obd (fX0_add ln N M q12 o.1 σ) (fun _ σ14 => fX2_joinAll_b92 ln N M k11 (nI base) kk nd (nI tp') o.1 σ14))) = k11 (nI base) kk (nI s2) (nI tp' - 1) z ∧ CV ln q x n tc G L np fnd mu tk c ns (s2 + 1) (p' + (gl (opN o.1 o.2 B)).2) tp' z ∧ (∀ T, fX q s2 p' T σ z) ∧ rOc ln q fnd st np z base lo p0 r tp' s' p' ∧ (crp z q fnd np (opN o.1 o.2 B)).1 s' (s2 + 1) (nI s2) ∧ isNd (opN o.1 o.2 B) ∧ cdC ln q z p' ((gn st (nI np) (opN o.1 o.2 B)).2 p') := by
  have hcc : ln (q + 36) ≤ 4096 := by have := hL.2.2.2.2.2.2.2.2.2.2.2; omega
  have hq := hL.1
  have h15 := hL.2.1
  have e22 := hL.2.2.2.2.2.2.2.2.1
  have e23 := hL.2.2.2.2.2.2.2.2.2.1
  have hlA := (gn_len st (nI np) o.2).2 p'
  have hlB := (gn_len st (nI np) B).2 p
  have hcA := (crp_cnt o.2).1 _ _ _ hfst
  have hcB := (crp_cnt B).1 _ _ _ hc
  have hleR := rOc_le hr'
  -- the node, behind the cells
  have h92 : ∀ (z : zSt) (pz : Nat) (k : Nat) (v : Int), k = 6 ∨ k = 7 ∨ k = 8 → cVa fnd np k v = o.1 → CV ln q x n tc G L np fnd mu tk c ns s2 pz (tp' + 1) z → (∀ T, fX q s2 p' T σ z) → ∃ y, fX2_joinAll_b92 ln N M k11 (nI base) kk nd (nI tp') o.1 z = k11 (nI base) kk (nI s2) (nI tp' - 1) y ∧ CV ln q x n tc G L np fnd mu tk c ns (s2 + 1) pz tp' y ∧ (∀ T, fX q s2 p' T σ y) ∧ (∀ i, zA y (q + 36) i = zA z (q + 36) i) ∧ rOc ln q fnd st np y base lo p0 r tp' s' p' ∧ (crp y q fnd np (fN k v 0 o.2 B fZ)).1 s' (s2 + 1) (nI s2) := by
    intro z pz k v hk hva hVz hFz
    unfold fX2_joinAll_b92
    rw [rbT hL.1 hVz.1.2.1.1, e22, nI_clamp (by omega), if_neg (ixN htp (by omega)), treeC hL hVz.2.2.2.2.2.1 hs2, obd_s, bnd_e, bnd_e, show nI tp' + -1 = nI tp' - 1 from (Int32.sub_eq_add_neg ..).symm]
    obtain ⟨hV2, -⟩ := ta_CV (k := 7) (a := o.1) (b := zA z 22 tp') (d := nd) hL hVz
    have h22 : zA z 22 tp' = zA σ 22 tp' := (hFz (tp' + 1)).2.2.2.1 22 tp' (by unfold eA; omega)
    have hF2 : ∀ T, fX q s2 p' T σ (zsI (taS z q s2 7 o.1 (zA z 22 tp') nd) 5 6 (nI tp')) := fun T => fX_I (fX_ta (hFz T) (Nat.le_refl _) hL.1) (by unfold eI; omega)
    refine ⟨_, rfl, top_CV hL hV2, hF2, fun i => ?_, rOc_fX hL.1 (hF2 tp') (by omega) (Nat.le_refl _) (Nat.le_refl _) hr', ?_⟩
    · rw [zA_I]
      exact (fX_ta (q := q) (s := s2) (p := i + 1) (t := 0) (s' := s2) (τ := z) (u := z) (k := 7) (a := o.1) (b := zA z 22 tp') (c := nd) fX_refl (Nat.le_refl _) hL.1).2.2.2.1 (q + 36) i (by unfold eA; omega)
    · have hA2 := crp_fX (s := s2) (p := p') (t := tp') hL.1 (hFz tp') (by omega) hfst
      have hB2 := crp_fX (s := s2) (p := p') (t := tp') hL.1 (hFz tp') (Nat.le_refl _) hc
      have := crp_2 (τ := z) (q := q) (s := s2) (lo := s') (a := s) (fnd := fnd) (np := np) (k := k) (v := v) (w := 0) (A := o.2) (B := B) (x := zA σ 22 tp') (y := nd) hL.1 (by omega) (by omega) (by omega) (by omega) hA2 hB2
      rw [hva, show cKd k = 7 by rcases hk with rfl | rfl | rfl <;> rfl] at this
      rw [h22]
      exact (crp_frame (fnd' := fnd) hL.1 _).1 _ _ _ (fun a m _ _ _ _ => zA_I ..) this
  by_cases c8 : o.1 = 8
  · have hh : hdL o.1 (p' + (gl o.2).2) = [31, 0] := by unfold hdL; rw [if_pos c8]
    rw [hh] at hcdo hpp
    have hpp2 : p = p' + (gl o.2).2 + 2 := hpp
    rw [if_pos c8]
    unfold fX2_joinAll_b67
    rw [e23, nI_clamp (by omega), if_neg (ixN htp (by omega)), hhole (Or.inl c8)]
    obtain ⟨y, y1, y2, y3, y4, y5, y6⟩ := endC (N := N) (M := M) (h := p - 1) (sg := o.1) hL h (by omega) (by omega) (Or.inl c8)
    rw [y1, obd_s]
    obtain ⟨z, z1, z2, z3, z4, z5, z6⟩ := h92 y _ 7 28 (by omega) (by rw [c8]; rfl) y2 (fun T => fX_trans (fX_refl (s := s2) (p := p') (t := T)) (y3 s2 T) (Nat.le_refl _) (by omega) (Nat.le_refl _))
    have ho : opN o.1 o.2 B = fN 7 28 0 o.2 B fZ := by unfold opN; rw [if_neg (by rw [c8]; decide), if_pos c8]
    have hgl : (gl (fN 7 28 0 o.2 B fZ)).2 = (gl o.2).2 + (2 + ((gl B).2 + 8)) := by rw [gl_N]; rfl
    rw [ho]
    refine ⟨z, z1, by rw [hgl, show p' + ((gl o.2).2 + (2 + ((gl B).2 + 8))) = p + (gl B).2 + 8 by omega]; exact z2, z3, z5, z6, ⟨_, _, _, _, _, _, rfl⟩, ?_⟩
    rw [gn_N]
    show cdC ln q z p' ((gn st (nI np) o.2).2 p' ++ ([31, nI (p' + ((gn st (nI np) o.2).2 p').length + 2 + ((gn st (nI np) B).2 (p' + ((gn st (nI np) o.2).2 p').length + 2)).length + 6)] ++ ((gn st (nI np) B).2 (p' + ((gn st (nI np) o.2).2 p').length + 2) ++ [31, nI (p' + ((gn st (nI np) o.2).2 p').length + 2 + ((gn st (nI np) B).2 (p' + ((gn st (nI np) o.2).2 p').length + 2)).length + 6), 1, 1, 30, nI (p' + ((gn st (nI np) o.2).2 p').length + 2 + ((gn st (nI np) B).2 (p' + ((gn st (nI np) o.2).2 p').length + 2)).length + 8), 1, 0])))
    rw [hlA, ← hpp2, hlB, ← List.append_assoc]
    rw [c8, if_pos rfl] at y5
    refine cdC_app (l := (gn st (nI np) o.2).2 p' ++ [31, nI (p + (gl B).2 + 6)]) ?_ ?_
    · rw [show (gn st (nI np) o.2).2 p' ++ [31, nI (p + (gl B).2 + 6)] = ((gn st (nI np) o.2).2 p' ++ [31]) ++ [nI (p + (gl B).2 + 6)] by rw [List.append_assoc]; rfl]
      refine cdC_set (σ := σ) (h := p - 1) (w := 0) (by rw [List.length_append, hlA]; show p - 1 = p' + ((gl o.2).2 + 1); omega) (by rw [List.append_assoc]; exact hcdo) (fun e => (z4 _).trans (y5 e)) (fun i h1 h2 => (z4 _).trans (y6 i (by omega) (by omega)))
    · rw [List.length_append, hlA, show p' + ((gl o.2).2 + [31, nI (p + (gl B).2 + 6)].length) = p by show p' + ((gl o.2).2 + 2) = p; omega]
      refine cdC_app (fun hl j v hj => ?_) ?_
      · have hjl : j < ((gn st (nI np) B).2 p).length := by
          by_cases e : j < ((gn st (nI np) B).2 p).length
          · exact e
          · rw [List.getElem?_eq_none (by omega)] at hj; cases hj
        rw [z4, y6 _ (by omega) (by omega)]
        exact hcd hl j v hj
      · rw [hlB]
        intro hl j v hj
        rw [z4]
        exact y4 hl j v hj
  · rw [if_neg c8]
    by_cases c9 : o.1 = 9
    · have hh : hdL o.1 (p' + (gl o.2).2) = [31, nI (p' + (gl o.2).2 + 6), 1, 1, 30, 0] := by unfold hdL; rw [if_neg c8, if_pos c9]
      rw [hh] at hcdo hpp
      have hpp2 : p = p' + (gl o.2).2 + 6 := hpp
      rw [if_pos c9]
      unfold fX2_joinAll_b67
      rw [e23, nI_clamp (by omega), if_neg (ixN htp (by omega)), hhole (Or.inr c9)]
      obtain ⟨y, y1, y2, y3, y4, y5, y6⟩ := endC (N := N) (M := M) (h := p - 1) (sg := o.1) hL h (by omega) (by omega) (Or.inr c9)
      rw [y1, obd_s]
      obtain ⟨z, z1, z2, z3, z4, z5, z6⟩ := h92 y _ 8 28 (by omega) (by rw [c9]; rfl) y2 (fun T => fX_trans (fX_refl (s := s2) (p := p') (t := T)) (y3 s2 T) (Nat.le_refl _) (by omega) (Nat.le_refl _))
      have ho : opN o.1 o.2 B = fN 8 28 0 o.2 B fZ := by unfold opN; rw [if_pos c9]
      have hgl : (gl (fN 8 28 0 o.2 B fZ)).2 = (gl o.2).2 + (6 + ((gl B).2 + 8)) := by rw [gl_N]; rfl
      rw [ho]
      refine ⟨z, z1, by rw [hgl, show p' + ((gl o.2).2 + (6 + ((gl B).2 + 8))) = p + (gl B).2 + 8 by omega]; exact z2, z3, z5, z6, ⟨_, _, _, _, _, _, rfl⟩, ?_⟩
      rw [gn_N]
      show cdC ln q z p' ((gn st (nI np) o.2).2 p' ++ ([31, nI (p' + ((gn st (nI np) o.2).2 p').length + 6), 1, 1, 30, nI (p' + ((gn st (nI np) o.2).2 p').length + 6 + ((gn st (nI np) B).2 (p' + ((gn st (nI np) o.2).2 p').length + 6)).length + 8)] ++ ((gn st (nI np) B).2 (p' + ((gn st (nI np) o.2).2 p').length + 6) ++ [31, nI (p' + ((gn st (nI np) o.2).2 p').length + 6 + ((gn st (nI np) B).2 (p' + ((gn st (nI np) o.2).2 p').length + 6)).length + 6), 1, 1, 30, nI (p' + ((gn st (nI np) o.2).2 p').length + 6 + ((gn st (nI np) B).2 (p' + ((gn st (nI np) o.2).2 p').length + 6)).length + 8), 1, 0])))
      rw [hlA, ← hpp2, hlB, ← List.append_assoc]
      rw [if_neg c8] at y5
      refine cdC_app (l := (gn st (nI np) o.2).2 p' ++ [31, nI p, 1, 1, 30, nI (p + (gl B).2 + 8)]) ?_ ?_
      · rw [show (gn st (nI np) o.2).2 p' ++ [31, nI p, 1, 1, 30, nI (p + (gl B).2 + 8)] = ((gn st (nI np) o.2).2 p' ++ [31, nI p, 1, 1, 30]) ++ [nI (p + (gl B).2 + 8)] by rw [List.append_assoc]; rfl]
        refine cdC_set (σ := σ) (h := p - 1) (w := 0) (by rw [List.length_append, hlA]; show p - 1 = p' + ((gl o.2).2 + 5); omega) (by rw [List.append_assoc, hpp2]; exact hcdo) (fun e => (z4 _).trans (y5 e)) (fun i h1 h2 => (z4 _).trans (y6 i (by omega) (by omega)))
      · rw [List.length_append, hlA, show p' + ((gl o.2).2 + [31, nI p, 1, 1, 30, nI (p + (gl B).2 + 8)].length) = p by show p' + ((gl o.2).2 + 6) = p; omega]
        refine cdC_app (fun hl j v hj => ?_) ?_
        · have hjl : j < ((gn st (nI np) B).2 p).length := by
            by_cases e : j < ((gn st (nI np) B).2 p).length
            · exact e
            · rw [List.getElem?_eq_none (by omega)] at hj; cases hj
          rw [z4, y6 _ (by omega) (by omega)]
          exact hcd hl j v hj
        · rw [hlB]
          intro hl j v hj
          rw [z4]
          exact y4 hl j v hj
    · have hh : hdL o.1 (p' + (gl o.2).2) = [] := by unfold hdL; rw [if_neg c8, if_neg c9]
      rw [hh] at hcdo hpp
      have hpp2 : p = p' + (gl o.2).2 := hpp
      rw [if_neg c9, rbC hL.1 h.1.2.1.2.1, addC hcc h.2.2.2.2.2.2.1 (by omega), obd_s]
      obtain ⟨hV1, -⟩ := ck_CV (l := [o.1]) hL h
      have hT1 : ∀ T, fX q s2 p' T σ (ckS ln q σ (p + (gl B).2) [o.1]) := fun T => fX_ck fX_refl (by omega)
      have hcd1 := ckS_cd (ln := ln) (q := q) (p := p + (gl B).2) (σ := σ) (l := [o.1])
      have hlow : ∀ i, i < p + (gl B).2 → zA (ckS ln q σ (p + (gl B).2) [o.1]) (q + 36) i = zA σ (q + 36) i := fun i hi => ckS_A (Or.inr hi)
      revert hV1 hT1 hcd1 hlow
      generalize ckS ln q σ (p + (gl B).2) [o.1] = y
      intro hV1 hT1 hcd1 hlow
      obtain ⟨z, z1, z2, z3, z4, z5, z6⟩ := h92 y _ 6 o.1.toInt (by omega) (Int32.ofInt_toInt _) hV1 hT1
      have ho : opN o.1 o.2 B = fN 6 o.1.toInt 0 o.2 B fZ := by unfold opN; rw [if_neg c9, if_neg c8]
      have hgl : (gl (fN 6 o.1.toInt 0 o.2 B fZ)).2 = (gl o.2).2 + ((gl B).2 + 1) := by rw [gl_N]; rfl
      rw [ho]
      refine ⟨z, z1, by rw [hgl, show p' + ((gl o.2).2 + ((gl B).2 + 1)) = p + (gl B).2 + 1 by omega]; exact z2, z3, z5, z6, ⟨_, _, _, _, _, _, rfl⟩, ?_⟩
      rw [gn_N]
      show cdC ln q z p' ((gn st (nI np) o.2).2 p' ++ ((gn st (nI np) B).2 (p' + ((gn st (nI np) o.2).2 p').length) ++ [Int32.ofInt o.1.toInt]))
      rw [hlA, ← hpp2, Int32.ofInt_toInt]
      refine cdC_app (fun hl j v hj => ?_) ?_
      · have hjl : j < ((gn st (nI np) o.2).2 p').length := by
          by_cases e : j < ((gn st (nI np) o.2).2 p').length
          · exact e
          · rw [List.getElem?_eq_none (by omega)] at hj; cases hj
        rw [z4, hlow _ (by omega)]
        rw [List.append_nil] at hcdo
        exact hcdo hl j v hj
      · rw [hlA, ← hpp2]
        refine cdC_app (fun hl j v hj => ?_) ?_
        · have hjl : j < ((gn st (nI np) B).2 p).length := by
            by_cases e : j < ((gn st (nI np) B).2 p).length
            · exact e
            · rw [List.getElem?_eq_none (by omega)] at hj; cases hj
          rw [z4, hlow _ (by omega)]
          exact hcd hl j v hj
        · rw [hlB]
          intro hl j v hj
          rw [z4]
          exact hcd1 hl j v hj
end
