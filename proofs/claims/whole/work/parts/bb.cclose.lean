/-! THE CLASS: a FUNCTION is closed -/
section
variable {ln : Nat → Nat} {N M q cc : Nat} {x : Nat → Int32} {n tc : Nat} {G : gE} {L L0 : lE} {np : Nat} {fnd st : Nat → Int32} {mu : Int32} {tk : yTok} {c ns s p t D pl ms : Nat} {σ τ u : zSt}
theorem cdC_keep {p1 : Nat} {l : List Int32} (h : cdC ln q σ p1 l) (hk : ∀ i, p1 ≤ i → i < p1 + l.length → zA u (q + 36) i = zA σ (q + 36) i) : cdC ln q u p1 l := by
  intro hl j v hj
  have hjl : j < l.length := by
    by_cases e : j < l.length
    · exact e
    · rw [List.getElem?_eq_none (by omega)] at hj; cases hj
  rw [hk _ (by omega) (by omega)]
  exact h hl j v hj
theorem clsFC {w : Int64} {A : fT} {r : Int32} {m ms' s' : Nat} (hL : LN ln q cc) (hV : CV ln q x n tc (gAdd G w 2 (nI p) (nI m)) L m fnd (-1) tk c 0 s' (p + 2 + (gl A).2) 0 σ) (h9 : zI σ 2 9 = nI ms') (h27 : zI σ 2 7 = nI G.2.2.2.2) (hfn : fnd G.2.2.2.2 = nI s) (hs : s + 1 ≤ s') (hs2 : s' ≤ ln 15) (hP : p + 2 + (gl A).2 ≤ 10500) (hGl : G.2.2.2.2 + 1 + L.2.2 ≤ ln 15) (hcd : cdC ln q σ p [37, 0]) (hcdA : cdC ln q σ (p + 2) ((gn st (nI m) A).2 (p + 2))) (hc : (crp σ q fnd m A).1 (s + 1) s' r) :
    ∃ y, fX6_closeFunction ln N M r σ = some ((), y) ∧ CV ln q x n tc (gAdd G w 2 (nI p) (nI m)) lNo m fnd (-1) tk c 0 s' (p + 2 + (gl A).2 + 4) 0 y ∧ (∀ o k, ¬ (eI q o k ∨ (o = 4 ∧ k = 5)) → zI y o k = zI σ o k) ∧ (∀ o k, zL y o k = zL σ o k) ∧ (∀ o k, zR y o k = zR σ o k) ∧ (∀ a i, zB y a i = zB σ a i) ∧ (∀ a i, ¬ (a = q + 36 ∧ (i = p + 1 ∨ p + 2 + (gl A).2 ≤ i)) → ¬ (6 * q - 19 ≤ a ∧ a ≤ 6 * q - 17 ∧ i = s) → zA y a i = zA σ a i) ∧ cdC ln q y p ([37, nI ms'] ++ ((gn st (nI m) A).2 (p + 2) ++ [1, 0, 33, nI m])) ∧ zA y (6 * q - 19) s = r ∧ zA y (6 * q - 18) s = nI ms' ∧ zA y (6 * q - 17) s = -1 ∧ (crp y q fnd m A).1 (s + 1) s' r := by
  have hq := hL.1
  have h15 := hL.2.1
  have hcc : ln (q + 36) ≤ 4096 := by have := hL.2.2.2.2.2.2.2.2.2.2.2; omega
  have hlen := (gn_len st (nI m) A).2 (p + 2)
  unfold fX6_closeFunction
  rw [rbC hL.1 hV.1.2.1.2.2.2.2, addC2 hcc hV.2.2.2.2.2.2.1 (by omega), obd_s]
  obtain ⟨hV1, hF1⟩ := ck_CV (l := [1, 0]) hL hV
  have hd1 := ckS_cd (ln := ln) (q := q) (p := p + 2 + (gl A).2) (σ := σ) (l := [1, 0])
  have hA1 : ∀ a i, ¬ (a = q + 36 ∧ p + 2 + (gl A).2 ≤ i) → zA (ckS ln q σ (p + 2 + (gl A).2) [1, 0]) a i = zA σ a i := fun a i hn => (fX_ck (l := [1, 0]) (ln := ln) (q := q) (s := i + 1) (p := p + 2 + (gl A).2) (t := i + 1) (τ := σ) (u := σ) (p' := p + 2 + (gl A).2) fX_refl (Nat.le_refl _)).2.2.2.1 a i (by unfold eA; omega)
  have hB1 : ∀ a i, zB (ckS ln q σ (p + 2 + (gl A).2) [1, 0]) a i = zB σ a i := fun a i => hF1.2.2.2.2 a i
  have hL1 : ∀ o k, zL (ckS ln q σ (p + 2 + (gl A).2) [1, 0]) o k = zL σ o k := fun o k => ckS_L
  have hR1 := hF1.2.2.1
  have hI1 := hF1.1
  revert hV1 hd1 hA1 hB1 hL1 hR1 hI1
  generalize ckS ln q σ (p + 2 + (gl A).2) [1, 0] = u1
  intro hV1 hd1 hA1 hB1 hL1 hR1 hI1
  rw [rbC hL.1 hV1.1.2.1.2.2.2.2, hV1.1.2.2.2.2, addC2 hcc hV1.2.2.2.2.2.2.1 (by show p + 2 + (gl A).2 + 2 < _; omega), obd_s]
  obtain ⟨hV2, hF2⟩ := ck_CV (l := [33, nI m]) hL hV1
  have hd2 := ckS_cd (ln := ln) (q := q) (p := p + 2 + (gl A).2 + 2) (σ := u1) (l := [33, nI m])
  have hA2 : ∀ a i, ¬ (a = q + 36 ∧ p + 2 + (gl A).2 + 2 ≤ i) → zA (ckS ln q u1 (p + 2 + (gl A).2 + ([1, 0] : List Int32).length) [33, nI m]) a i = zA u1 a i := fun a i hn => (fX_ck (l := [33, nI m]) (ln := ln) (q := q) (s := i + 1) (p := p + 2 + (gl A).2 + 2) (t := i + 1) (τ := u1) (u := u1) (p' := p + 2 + (gl A).2 + 2) fX_refl (Nat.le_refl _)).2.2.2.1 a i (by unfold eA; omega)
  have hB2 := hF2.2.2.2.2
  have hL2 : ∀ o k, zL (ckS ln q u1 (p + 2 + (gl A).2 + ([1, 0] : List Int32).length) [33, nI m]) o k = zL u1 o k := fun o k => ckS_L
  have hR2 := hF2.2.2.1
  have hI2 := hF2.1
  have hd2' : cdC ln q (ckS ln q u1 (p + 2 + (gl A).2 + ([1, 0] : List Int32).length) [33, nI m]) (p + 2 + (gl A).2 + 2) [33, nI m] := hd2
  have hV2' : CV ln q x n tc (gAdd G w 2 (nI p) (nI m)) L m fnd (-1) tk c 0 s' (p + 2 + (gl A).2 + 4) 0 (ckS ln q u1 (p + 2 + (gl A).2 + ([1, 0] : List Int32).length) [33, nI m]) := hV2
  revert hV2' hd2' hA2 hB2 hL2 hR2 hI2
  clear hV2 hF2 hd2
  generalize ckS ln q u1 (p + 2 + (gl A).2 + ([1, 0] : List Int32).length) [33, nI m] = u2
  intro hA2 hB2 hL2 hR2 hI2 hd2 hV2
  have h272 : zI u2 2 7 = nI G.2.2.2.2 := (hI2 2 7 (by unfold eI; omega)).trans ((hI1 2 7 (by unfold eI; omega)).trans h27)
  have h292 : zI u2 2 9 = nI ms' := (hI2 2 9 (by unfold eI; omega)).trans ((hI1 2 9 (by unfold eI; omega)).trans h9)
  have hin : inQ (gAdd G w 2 (nI p) (nI m)) L (.inr G.2.2.2.2) := by show G.2.2.2.2 < G.2.2.2.2 + 1; omega
  have hnm := nmL (N := N) (M := M) (v := 0) hL (show (gAdd G w 2 (nI p) (nI m)).2.2.2.2 + L.2.2 ≤ ln 15 from hGl) hV2.1.2.2.1 hin
  have hpl : plOf (gAdd G w 2 (nI p) (nI m)) L (.inr G.2.2.2.2) = nI p := by
    show (if G.2.2.2.2 = G.2.2.2.2 then nI p else _) = nI p
    rw [if_pos rfl]
  have hix : nI (ixC (gAdd G w 2 (nI p) (nI m)) (.inr G.2.2.2.2)) = nI G.2.2.2.2 := rfl
  rw [hix, hpl] at hnm
  rw [rbC hL.1 hV2.1.2.1.2.2.2.2, h272, hnm.1, obd_s, nI_1, h292]
  obtain ⟨z, z1, z2, z3, z4, z5, z6, z7⟩ := setC (N := N) (M := M) (σ := u2) (h := p + 1) (v := nI ms') hL (by omega)
  rw [z1, obd_s]
  obtain ⟨hV3, -⟩ := set_CV (D := p + 1) hL hV2 z3 z4 z5 z6 z7
  have hnm3 := nmL (N := N) (M := M) (v := 0) hL (show (gAdd G w 2 (nI p) (nI m)).2.2.2.2 + L.2.2 ≤ ln 15 from hGl) hV3.1.2.2.1 hin
  rw [hix] at hnm3
  have hnode : zA z 20 (ixC (gAdd G w 2 (nI p) (nI m)) (.inr G.2.2.2.2)) = nI s := by
    show zA z 20 G.2.2.2.2 = nI s
    rw [(hV3.1.2.2.1.2.1 G.2.2.2.2 (by show G.2.2.2.2 < G.2.2.2.2 + 1; omega)).2.2.2.2 (by show (if G.2.2.2.2 = G.2.2.2.2 then (2 : Int32) else _) = 2; rw [if_pos rfl]), hfn]
  rw [hnode] at hnm3
  rw [rbT hL.1 hV3.1.2.1.2.2.2.1, z4, h272, hnm3.2.2.1, obd_s, z4, h292, setPC hL hV3.2.2.2.2.2.1 (by omega) (by omega), obd_s]
  have hI4 : ∀ o k, zI (spS z q s r (nI ms') (-1)) o k = zI z o k := fun o k => by unfold spS; rw [zI_A, zI_A, zI_A]
  have hA4 : ∀ a i, ¬ (6 * q - 19 ≤ a ∧ a ≤ 6 * q - 17 ∧ i = s) → zA (spS z q s r (nI ms') (-1)) a i = zA z a i := fun a i hn => by unfold spS; rw [zA_A, if_neg (by omega), zA_A, if_neg (by omega), zA_A, if_neg (by omega)]
  have hp4 : zA (spS z q s r (nI ms') (-1)) (6 * q - 19) s = r ∧ zA (spS z q s r (nI ms') (-1)) (6 * q - 18) s = nI ms' ∧ zA (spS z q s r (nI ms') (-1)) (6 * q - 17) s = -1 := by
    unfold spS
    refine ⟨?_, ?_, ?_⟩
    · rw [zA_A, if_neg (by omega), zA_A, if_neg (by omega), zA_A, if_pos ⟨rfl, rfl⟩]
    · rw [zA_A, if_neg (by omega), zA_A, if_pos ⟨rfl, rfl⟩]
    · rw [zA_A, if_pos ⟨rfl, rfl⟩]
  have hL4 : ∀ o k, zL (spS z q s r (nI ms') (-1)) o k = zL z o k := fun _ _ => rfl
  have hR4 : ∀ o k, zR (spS z q s r (nI ms') (-1)) o k = zR z o k := fun _ _ => rfl
  have hB4 : ∀ o k, zB (spS z q s r (nI ms') (-1)) o k = zB z o k := fun _ _ => rfl
  revert hI4 hA4 hp4 hL4 hR4 hB4
  generalize spS z q s r (nI ms') (-1) = y
  intro hI4 hA4 hp4 hL4 hR4 hB4
  have hN4 : NV (gAdd G w 2 (nI p) (nI m)) L fnd y := by
    obtain ⟨n1, n2, n3⟩ := hV3.1.2.2.1
    refine ⟨(hI4 _ _).trans n1, fun g hg => ?_, fun j hj => ?_⟩
    · obtain ⟨a1, a2, a3, a4, a5⟩ := n2 g hg
      exact ⟨(hB4 _ _).trans a1, (hA4 _ _ (by omega)).trans a2, (hA4 _ _ (by omega)).trans a3, (hA4 _ _ (by omega)).trans a4, fun e => (hA4 _ _ (by omega)).trans (a5 e)⟩
    · obtain ⟨a1, a2, a3⟩ := n3 j hj
      exact ⟨(hB4 _ _).trans a1, (hA4 _ _ (by omega)).trans a2, (hA4 _ _ (by omega)).trans a3⟩
  have hV4 := CV_nm (u := y) hL hV3 (fun o k _ _ _ => hI4 o k) hL4 hR4 (fun j => hA4 15 j (by omega)) hN4
  rw [show zI y 2 7 = nI G.2.2.2.2 from (hI4 _ _).trans ((z4 _ _).trans h272), nI_1, cutC (k := G.2.2.2.2 + 1 + L.2.2) (by omega) (by omega) hN4.1, obd_s]
  have hV5 := cut_CV (L0 := lNo) hL ⟨Nat.zero_le _, fun j hj => absurd hj (Nat.not_lt_zero _)⟩ hV4
  have row : ∀ a i, ¬ (a = q + 36 ∧ (i = p + 1 ∨ p + 2 + (gl A).2 ≤ i)) → ¬ (6 * q - 19 ≤ a ∧ a ≤ 6 * q - 17 ∧ i = s) → zA (zsI y 4 5 (nI (G.2.2.2.2 + 1))) a i = zA σ a i := fun a i c1 c2 => by rw [zA_I, hA4 _ _ c2, z3 _ _ (by omega), hA2 _ _ (by omega), hA1 _ _ (by omega)]
  have row2 : ∀ i, i ≠ p + 1 → zA (zsI y 4 5 (nI (G.2.2.2.2 + 1))) (q + 36) i = zA u2 (q + 36) i := fun i hi => by rw [zA_I, hA4 _ _ (by omega), z3 _ _ (by omega)]
  refine ⟨_, rfl, hV5, fun o k hn => ?_, fun o k => (hL4 o k).trans ((z5 o k).trans ((hL2 o k).trans (hL1 o k))), fun o k => (hR4 o k).trans ((z6 o k).trans ((hR2 o k).trans (hR1 o k))), fun a i => (hB4 a i).trans ((z7 a i).trans ((hB2 a i).trans (hB1 a i))), row, ?_, by rw [zA_I]; exact hp4.1, by rw [zA_I]; exact hp4.2.1, by rw [zA_I]; exact hp4.2.2, ?_⟩
  · rw [zI_I, if_neg (by omega), hI4, z4, hI2 _ _ (fun e => hn (Or.inl e)), hI1 _ _ (fun e => hn (Or.inl e))]
  · refine cdC_app (cdC_set (l := [37]) (σ := σ) (h := p + 1) (w := 0) rfl hcd (fun e => ?_) (fun i h1 h2 => row _ _ (by omega) (by omega))) ?_
    · rw [zA_I, hA4 _ _ (by omega)]; exact z2 e
    · show cdC ln q _ (p + 2) _
      refine cdC_app (cdC_keep hcdA (fun i h1 h2 => row _ _ (by omega) (by omega))) ?_
      rw [hlen]
      refine cdC_app (l := [1, 0]) (r := [33, nI m]) (cdC_keep hd1 (fun i h1 h2 => ?_)) (cdC_keep hd2 (fun i h1 h2 => row2 i (by omega)))
      have h2' : i < p + 2 + (gl A).2 + 2 := h2
      rw [row2 i (by omega), hA2 _ _ (by omega)]
  · exact (crp_frame (fnd' := fnd) hq A).1 _ _ _ (fun a j a1 a2 a3 a4 => row a j (by omega) (by omega)) hc
end
