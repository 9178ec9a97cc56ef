/-! THE CLASS: signs get their parts -/
theorem rankC {ln : Nat → Nat} {N M : Nat} {k : Int32} {σ : zSt} : fX2_rankOf ln N M k σ = some (nI (rk k), σ) := by
  have fin : ∀ j : Nat, j < 29 → zK_RANKS j = nI (rk (nI j)) := by decide +kernel
  have out : ¬ (∃ j : Nat, j < 29 ∧ k = nI j) → rk k = 0 := by
    intro h
    by_cases e : 0 < rk k
    · exfalso
      apply h
      rcases rk_in e with q | q | q | q | q | q | q | q | q | q | q | q | q | q | q | q | q | q
      · exact ⟨8, by omega, q⟩
      · exact ⟨9, by omega, q⟩
      · exact ⟨10, by omega, q⟩
      · exact ⟨11, by omega, q⟩
      · exact ⟨12, by omega, q⟩
      · exact ⟨13, by omega, q⟩
      · exact ⟨14, by omega, q⟩
      · exact ⟨15, by omega, q⟩
      · exact ⟨16, by omega, q⟩
      · exact ⟨17, by omega, q⟩
      · exact ⟨18, by omega, q⟩
      · exact ⟨19, by omega, q⟩
      · exact ⟨20, by omega, q⟩
      · exact ⟨21, by omega, q⟩
      · exact ⟨22, by omega, q⟩
      · exact ⟨23, by omega, q⟩
      · exact ⟨27, by omega, q⟩
      · exact ⟨28, by omega, q⟩
    · omega
  unfold fX2_rankOf
  by_cases c1 : k < 0
  · rw [if_pos c1, out (fun ⟨j, h1, h2⟩ => by rw [h2] at c1; exact absurd c1 (nI_pos (by omega)))]
    rfl
  · rw [if_neg c1]
    by_cases c2 : (29 : Int32) ≤ k
    · rw [if_pos c2, out (fun ⟨j, h1, h2⟩ => by rw [h2, show (29 : Int32) = nI 29 from rfl, nI_le' (by omega) (by omega)] at c2; omega)]
      rfl
    · have c3 := ix_in (n := 29) c1 c2 (by omega)
      rw [if_neg c2, if_neg (by rintro (c | c); exact c1 c; omega), fin _ c3]
      have h0 := Int32.not_lt.mp c1
      rw [Int32.le_iff_toInt_le] at h0
      rw [← nI_cl h0]
theorem cdC_set {ln : Nat → Nat} {q p h : Nat} {σ z : zSt} {l : List Int32} {v w : Int32} (hh : h = p + l.length) (hc : cdC ln q σ p (l ++ [w])) (hz : h < ln (q + 36) → zA z (q + 36) h = v) (ho : ∀ i, p ≤ i → i < h → zA z (q + 36) i = zA σ (q + 36) i) : cdC ln q z p (l ++ [v]) := by
  intro hl j u hj
  rw [List.length_append] at hl
  have hl2 : p + (l.length + 1) ≤ ln (q + 36) := hl
  by_cases e : j < l.length
  · rw [ho _ (by omega) (by omega)]
    refine hc (by rw [List.length_append]; exact hl) j u ?_
    rw [List.getElem?_append_left e] at hj ⊢
    exact hj
  · by_cases e2 : j = l.length
    · rw [List.getElem?_append_right (by omega), show j - l.length = 0 by omega] at hj
      cases hj
      rw [show p + j = h by omega]
      exact hz (by omega)
    · rw [List.getElem?_eq_none (by rw [List.length_append]; show l.length + 1 ≤ j; omega)] at hj
      cases hj
section
variable {ln : Nat → Nat} {N M q cc : Nat} {x : Nat → Int32} {n tc : Nat} {G : gE} {L : lE} {np : Nat} {fnd st : Nat → Int32} {mu : Int32} {tk : yTok} {c ns s p t D : Nat} {σ : zSt} {base lo p0 : Nat}
/-- top is set -/
theorem top_CV {t' : Nat} (hL : LN ln q cc) (h : CV ln q x n tc G L np fnd mu tk c ns s p t σ) : CV ln q x n tc G L np fnd mu tk c ns s p t' (zsI σ 5 6 (nI t')) := by
  have hq := hL.1
  refine CV_f hL.1 h (fX_I fX_refl (by unfold eI; omega)) (fun k => by rw [zI_I, if_neg (by omega)]) (fun k => rfl) ?_ ?_ ?_ ?_ (by rw [zI_I, if_pos ⟨rfl, rfl⟩]) ?_
  · rw [zI_I, if_neg (by omega)]; exact h.2.2.2.1
  · rw [zI_I, if_neg (by omega)]; exact h.2.2.2.2.1
  · rw [zI_I, if_neg (by omega)]; exact h.2.2.2.2.2.1
  · rw [zI_I, if_neg (by omega)]; exact h.2.2.2.2.2.2.1
  · rw [zI_I, if_neg (by omega)]; exact h.2.2.2.2.2.2.2.2
theorem closeC {ops : yOps} (hL : LN ln q cc) (hn : n ≤ 512) (hops : ∀ o ∈ ops, 0 < rk o.1) : ∀ (l : yOps) (A : fT) (s s2 p t ns D f : Nat) (r : Int32) (σ : zSt), CV ln q x n tc G L np fnd mu tk c (ns + l.length) s2 (p + (gl A).2) t σ → CB n tc tk c (ns + l.length) s2 (p + (gl A).2) (D + l.length) → rOc ln q fnd st np σ base lo p0 (l ++ ops) t s p → (∀ o ∈ l, isOne o.1 = true) → (crp σ q fnd np A).1 s s2 r → isNd A → cdC ln q σ p ((gn st (nI np) A).2 p) → t ≤ 512 → l.length < f → p + (gl A).2 + l.length ≤ 10500 →
    ∃ r' z, fX2_closeOnes_b10 ln N M f (nI base) r (nI t - 1) σ = some (r', z) ∧ CV ln q x n tc G L np fnd mu tk c ns (s2 + l.length) (p + (gl (wrap l A)).2) (t - l.length) z ∧ CB n tc tk c ns (s2 + l.length) (p + (gl (wrap l A)).2) D ∧ (∀ T, fX q s2 (p + (gl A).2) T σ z) ∧ rOc ln q fnd st np z base lo p0 ops (t - l.length) s p ∧ (crp z q fnd np (wrap l A)).1 s (s2 + l.length) r' ∧ isNd (wrap l A) ∧ cdC ln q z p ((gn st (nI np) (wrap l A)).2 p) ∧ (gl (wrap l A)).2 = (gl A).2 + l.length := by
  have e21 := hL.2.2.2.2.2.2.2.1
  have hcc : ln (q + 36) ≤ 4096 := by have := hL.2.2.2.2.2.2.2.2.2.2.2; omega
  intro l
  induction l with
  | nil =>
    intro A s s2 p t ns D f r σ h hB hr _ hc hnd hcd ht hf _
    obtain ⟨f, rfl⟩ : ∃ g, f = g + 1 := ⟨f - 1, by omega⟩
    refine ⟨r, σ, ?_, h, hB, fun _ => fX_refl, hr, hc, hnd, hcd, rfl⟩
    have hle := rOc_le hr
    cases ops with
    | nil =>
      obtain ⟨e, -, -⟩ := hr
      rw [e]
      exact close10E (q := q) (cc := cc) (b := 0) (e := 0) (by omega)
    | cons o rr =>
      obtain ⟨tp', s', p', rfl, h1, h2, h3, h4, h5⟩ := hr
      have hle2 := rOc_le h1
      rw [fX2_closeOnes_b10, nI_pred, e21, if_neg (Int32.not_lt.mpr ((nI_le' (by omega) (by omega)).mpr (by omega))), if_neg (nI_pos (by omega)), if_neg (fun z => by rw [nI_le' (by omega) (by omega)] at z; omega), nI_clamp (by omega), if_neg (ixN (by omega) (by omega)), h3]
      have hro := hops o (List.mem_cons_self ..)
      rcases rk_in hro with q | q | q | q | q | q | q | q | q | q | q | q | q | q | q | q | q | q
      case inr.inr.inr.inr.inr.inr.inr.inr.inr.inr.inr.inr.inr.inr.inr.inr.inl => rw [if_neg (by rw [q]; decide), if_neg (ixN (by omega) (by omega)), if_neg (by rw [q]; decide)]
      case inr.inr.inr.inr.inr.inr.inr.inr.inr.inr.inr.inr.inr.inr.inr.inr.inr => rw [if_neg (by rw [q]; decide), if_neg (ixN (by omega) (by omega)), if_neg (by rw [q]; decide)]
      all_goals rw [if_pos (by rw [q]; decide)]
  | cons o l ih =>
    intro A s s2 p t ns D f r σ h hB hr hl hc hnd hcd ht hf hp
    obtain ⟨f, rfl⟩ : ∃ g, f = g + 1 := ⟨f - 1, by omega⟩
    rw [List.length_cons] at h hB hf hp
    obtain ⟨b1, b2, b3, b4, b5, b6⟩ := hB
    have hp1 := b1.1
    have hp2 := b1.2.1
    have hnl := h.1.1.2.1
    obtain ⟨tp', s', p', rfl, h1, h2, h3, h4, h5⟩ := hr
    have hone := hl o (List.mem_cons_self ..)
    obtain ⟨e1, e2⟩ := h4 hone
    subst e1
    subst e2
    have hin := isOne_in hone
    have hle2 := rOc_le h1
    have hlen := (gn_len st (nI np) A).2 p
    have hcntA := (crp_cnt A).1 _ _ _ hc
    rw [fX2_closeOnes_b10, nI_pred, e21, if_neg (Int32.not_lt.mpr ((nI_le' (by omega) (by omega)).mpr (by omega))), if_neg (nI_pos (by omega)), if_neg (fun z => by rw [nI_le' (by omega) (by omega)] at z; omega), nI_clamp (by omega), if_neg (ixN (by omega) (by omega)), h3, if_neg (by rcases hin with e | e | e <;> rw [e] <;> decide), if_neg (ixN (by omega) (by omega)), if_pos (by rcases hin with e | e | e <;> rw [e] <;> decide), rbC hL.1 h.1.2.1.2.1, if_neg (ixN (by omega) (by omega)), addC hcc h.2.2.2.2.2.2.1 (by omega), obd_s]
    obtain ⟨hV1, hF1⟩ := ck_CV (l := [o.1]) hL h
    have hcd1 := ckS_cd (ln := ln) (q := q) (p := p + (gl A).2) (σ := σ) (l := [o.1])
    have hc1 := crp_fX hL.1 hF1 (Nat.le_refl _) hc
    have hcdA := cdC_fX hL.1 hF1 (by omega) hcd
    have hr1 := rOc_fX hL.1 hF1 (by omega) (by omega) (by omega) h1
    have h31 : zA (ckS ln q σ (p + (gl A).2) [o.1]) 21 tp' = o.1 := (hF1.2.2.2.1 21 tp' (by unfold eA; have := hL.1; omega)).trans h3
    have hT1 : ∀ T, fX q s2 (p + (gl A).2) T σ (ckS ln q σ (p + (gl A).2) [o.1]) := fun T => fX_ck fX_refl (Nat.le_refl _)
    revert hV1 hF1 hcd1 hc1 hcdA hr1 h31 hT1
    generalize ckS ln q σ (p + (gl A).2) [o.1] = s1
    intro hV1 hF1 hcd1 hc1 hcdA hr1 h31 hT1
    rw [rbT hL.1 hV1.1.2.1.1, if_neg (ixN (by omega) (by omega)), h31, treeC hL hV1.2.2.2.2.2.1 (by omega), obd_s]
    obtain ⟨hV2, hF2⟩ := ta_CV (k := 6) (a := o.1) (b := r) (d := -1) hL hV1
    have hc2 : (crp (taS s1 q s2 6 o.1 r (-1)) q fnd np (onN o.1 A)).1 s (s2 + 1) (nI s2) := by
      have := crp_1 (τ := s1) (q := q) (s := s2) (lo := s) (fnd := fnd) (np := np) (k := 5) (v := o.1.toInt) (w := 0) (A := A) (x := r) hL.1 (by have := hL.2.1; omega) (by omega) (by omega) hc1
      rw [show cVa fnd np 5 o.1.toInt = o.1 from Int32.ofInt_toInt _] at this
      exact this
    have hgl : (gl (onN o.1 A)).2 = (gl A).2 + 1 := by unfold onN; rw [gl_N]; rfl
    have hcd2 : cdC ln q (taS s1 q s2 6 o.1 r (-1)) p ((gn st (nI np) (onN o.1 A)).2 p) := by
      unfold onN
      rw [gn_N]
      show cdC ln q _ p ((gn st (nI np) A).2 p ++ [Int32.ofInt o.1.toInt])
      rw [Int32.ofInt_toInt]
      refine cdC_app (cdC_fX hL.1 hF2 (by show p + _ ≤ p + (gl A).2 + 1; omega) hcdA) ?_
      rw [hlen]
      exact cdC_fX hL.1 hF2 (Nat.le_refl _) hcd1
    have hr2 := rOc_fX hL.1 hF2 (by omega) (by omega) (by omega) hr1
    have hF12 := fX_trans hF1 hF2 (Nat.le_refl _) (by omega) (Nat.le_refl _)
    have hT2 : ∀ T, fX q s2 (p + (gl A).2) T σ (taS s1 q s2 6 o.1 r (-1)) := fun T => fX_ta (hT1 T) (Nat.le_refl _) hL.1
    revert hV2 hc2 hcd2 hr2 hF12 hT2
    generalize taS s1 q s2 6 o.1 r (-1) = z2
    intro hV2 hc2 hcd2 hr2 hF12 hT2
    have hlv : fX1_leave ln N M z2 = some ((), zsI z2 3 4 (nI (ns + l.length))) := by
      unfold fX1_leave
      rw [hV2.2.2.2.2.1, show ns + (l.length + 1) = (ns + l.length) + 1 by omega, nI_pred, bnd_e]
    rw [hlv, obd_s, bnd_e, bnd_e, show nI tp' + -1 = nI tp' - 1 from (Int32.sub_eq_add_neg ..).symm]
    have hq := hL.1
    have hF3 : fX q (s2 + 1) (p + (gl A).2 + 1) (tp' + 1) z2 (zsI (zsI z2 3 4 (nI (ns + l.length))) 5 6 (nI tp')) := fX_I (fX_I fX_refl (by unfold eI; omega)) (by unfold eI; omega)
    have hV3 : CV ln q x n tc G L np fnd mu tk c (ns + l.length) (s2 + 1) (p + (gl (onN o.1 A)).2) tp' (zsI (zsI z2 3 4 (nI (ns + l.length))) 5 6 (nI tp')) := by
      rw [hgl]
      refine CV_f hL.1 hV2 (fX_I (fX_I fX_refl (by unfold eI; omega)) (by unfold eI; omega)) (fun k => by rw [zI_I, if_neg (by omega), zI_I, if_neg (by omega)]) (fun k => rfl) ?_ ?_ ?_ ?_ (by rw [zI_I, if_pos ⟨rfl, rfl⟩]) ?_
      · rw [zI_I, if_neg (by omega), zI_I, if_neg (by omega)]; exact hV2.2.2.2.1
      · rw [zI_I, if_neg (by omega), zI_I, if_pos ⟨rfl, rfl⟩]
      · rw [zI_I, if_neg (by omega), zI_I, if_neg (by omega)]; exact hV2.2.2.2.2.2.1
      · rw [zI_I, if_neg (by omega), zI_I, if_neg (by omega)]; exact hV2.2.2.2.2.2.2.1
      · rw [zI_I, if_neg (by omega), zI_I, if_neg (by omega)]; exact hV2.2.2.2.2.2.2.2.2
    have hc3 := crp_fX hL.1 hF3 (Nat.le_refl _) hc2
    have hcd3 := cdC_fX hL.1 hF3 (by rw [(gn_len _ _ _).2, hgl]; omega) hcd2
    have hr3 := rOc_fX hL.1 hF3 (by omega) (by omega) (by omega) hr2
    have hF13 := fX_trans hF12 hF3 (by omega) (by omega) (Nat.le_refl _)
    obtain ⟨r', z, g1, g2, g3, g4, g5, g6, g7, g8, g9⟩ := ih (onN o.1 A) s (s2 + 1) p tp' ns D f (nI s2) _ hV3 ⟨b1, b2, b3, by omega, by omega, by omega⟩ hr3 (fun a ha => hl a (List.mem_cons_of_mem _ ha)) hc3 ⟨_, _, _, _, _, _, rfl⟩ hcd3 (by omega) (by omega) (by omega)
    have hw : wrap (o :: l) A = wrap l (onN o.1 A) := rfl
    rw [hw, List.length_cons]
    have hT3 : ∀ T, fX q s2 (p + (gl A).2) T σ z := fun T => fX_trans (fX_I (fX_I (hT2 T) (by unfold eI; omega)) (by unfold eI; omega)) (g4 T) (by omega) (by omega) (Nat.le_refl _)
    refine ⟨r', z, g1, ?_, ?_, hT3, ?_, ?_, g7, g8, by omega⟩
    · rw [show s2 + (l.length + 1) = s2 + 1 + l.length by omega, show tp' + 1 - (l.length + 1) = tp' - l.length by omega]; exact g2
    · rw [show s2 + (l.length + 1) = s2 + 1 + l.length by omega]; exact g3
    · rw [show tp' + 1 - (l.length + 1) = tp' - l.length by omega]; exact g5
    · rw [show s2 + (l.length + 1) = s2 + 1 + l.length by omega]; exact g6
end
