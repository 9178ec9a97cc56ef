/-! THE CLASS: parameters -/
def fPm (q nn : Nat) (τ u : zSt) : Prop := (∀ o k, ¬ (eI q o k ∨ (o = 3 ∧ k = 5) ∨ (o = 4 ∧ k = 5)) → zI u o k = zI τ o k) ∧ (∀ o k, o ≠ 1 → zL u o k = zL τ o k) ∧ (∀ o k, zR u o k = zR τ o k) ∧ (∀ a i, ¬ (17 ≤ a ∧ a ≤ 20 ∧ nn ≤ i) → zA u a i = zA τ a i) ∧ (∀ a i, ¬ (a = 16 ∧ nn ≤ i) → zB u a i = zB τ a i)
theorem fPm_refl {q nn : Nat} {τ : zSt} : fPm q nn τ τ := ⟨fun _ _ _ => rfl, fun _ _ _ => rfl, fun _ _ => rfl, fun _ _ _ => rfl, fun _ _ _ => rfl⟩
theorem fPm_trans {q nn : Nat} {τ u v : zSt} (h : fPm q nn τ u) (h2 : fPm q nn u v) : fPm q nn τ v :=
  ⟨fun o k a => (h2.1 o k a).trans (h.1 o k a), fun o k a => (h2.2.1 o k a).trans (h.2.1 o k a), fun o k => (h2.2.2.1 o k).trans (h.2.2.1 o k), fun a i c => (h2.2.2.2.1 a i c).trans (h.2.2.2.1 a i c), fun a i c => (h2.2.2.2.2 a i c).trans (h.2.2.2.2 a i c)⟩
theorem fX_Pm {q nn : Nat} {τ u : zSt} (h : ∀ s p t, fX q s p t τ u) : fPm q nn τ u := ⟨fun o k a => (h 0 0 0).1 o k (fun e => a (Or.inl e)), (h 0 0 0).2.1, (h 0 0 0).2.2.1, fun a i c => (h (i + 1) (i + 1) (i + 1)).2.2.2.1 a i (by unfold eA; omega), fun a i _ => (h 0 0 0).2.2.2.2 a i⟩
theorem cS_Pm {q nn : Nat} {x : Nat → Int32} {n k : Nat} {τ : zSt} : fPm q nn τ (cS x n k τ) := fX_Pm (fun s p t => comS_fX fX_refl)
theorem fPm_I {q nn o k : Nat} {v : Int32} {τ : zSt} (ho : eI q o k ∨ (o = 3 ∧ k = 5) ∨ (o = 4 ∧ k = 5)) : fPm q nn τ (zsI τ o k v) := by
  refine ⟨fun o' k' hn => ?_, fun _ _ _ => rfl, fun _ _ => rfl, fun _ _ _ => rfl, fun _ _ _ => rfl⟩
  rw [zI_I, if_neg (fun e => hn (by rw [e.1, e.2]; exact ho))]
theorem fPm_R {q nn : Nat} {τ u : zSt} (hq : q = 9 ∨ q = 10) (h : fPm q nn τ u) : fR q τ u :=
  ⟨fun o k a => h.1 o k (by unfold eI; unfold okI at a; omega), h.2.1, h.2.2.1, fun a i c => h.2.2.2.1 a i (by unfold okA at c; omega), fun a i c => h.2.2.2.2 a i (by omega)⟩
def lIx (L : lE) : lE := (L.1, fun i => nI i, L.2.2)
theorem lIx_add {L : lE} {w : Int64} : lAdd (lIx L) w (nI L.2.2) = lIx (lAdd L w 0) := by
  unfold lAdd lIx
  refine Prod.ext rfl (Prod.ext ?_ rfl)
  funext i
  show (if i = L.2.2 then nI L.2.2 else nI i) = nI i
  by_cases e : i = L.2.2
  · rw [if_pos e, e]
  · rw [if_neg e]
def lMx (k j : Nat) (L : lE) : lE := (L.1, fun i => if i < j then nI i - 2 - nI k else nI i, L.2.2)
section
variable {ln : Nat → Nat} {N M q cc : Nat} {x : Nat → Int32} {n tc : Nat} {G : gE} {L L0 : lE} {np : Nat} {fnd st : Nat → Int32} {mu : Int32} {tk : yTok} {c ns s p t D pl ms : Nat} {σ τ : zSt}
theorem CV_c {L' : lE} (hn : L'.2.2 = L.2.2) (hp : ∀ j, j < L.2.2 → L'.1 j = L.1 j ∧ L'.2.1 j = L.2.1 j) (h : CV ln q x n tc G L np fnd mu tk c ns s p t σ) : CV ln q x n tc G L' np fnd mu tk c ns s p t σ := by
  obtain ⟨⟨hS, hR, hN, hc⟩, hr⟩ := h
  refine ⟨⟨hS, hR, ⟨by rw [hn]; exact hN.1, hN.2.1, fun j hj => ?_⟩, hc⟩, hr⟩
  rw [hn] at hj
  obtain ⟨a1, a2, a3⟩ := hN.2.2 j hj
  exact ⟨a1.trans (hp j hj).1.symm, a2, a3.trans (hp j hj).2.symm⟩
theorem pl_CV {j : Nat} {v : Int32} (hL : LN ln q cc) (hj : j < L.2.2) (h : CV ln q x n tc G L np fnd mu tk c ns s p t σ) : CV ln q x n tc G (L.1, (fun i => if i = j then v else L.2.1 i), L.2.2) np fnd mu tk c ns s p t (zsA σ 18 (G.2.2.2.2 + j) v) := by
  have hq := hL.1
  obtain ⟨⟨⟨s1', s2', s3', s4'⟩, hR, hN, c1, c2⟩, hr⟩ := h
  refine ⟨⟨⟨s1', s2', s3', fun i hi => by rw [zA_A, if_neg (by omega)]; exact s4' i hi⟩, hR, ⟨hN.1, fun g hg => ?_, fun i hi => ?_⟩, c1, c2⟩, hr⟩
  · obtain ⟨a1, a2, a3, a4, a5⟩ := hN.2.1 g hg
    exact ⟨a1, by rw [zA_A, if_neg (by omega)]; exact a2, by rw [zA_A, if_neg (by omega)]; exact a3, by rw [zA_A, if_neg (by omega)]; exact a4, fun e => by rw [zA_A, if_neg (by omega)]; exact a5 e⟩
  · obtain ⟨a1, a2, a3⟩ := hN.2.2 i hi
    refine ⟨a1, by rw [zA_A, if_neg (by omega)]; exact a2, ?_⟩
    show _ = if i = j then v else L.2.1 i
    by_cases e : i = j
    · rw [if_pos e, zA_A, if_pos ⟨rfl, by omega⟩]
    · rw [if_neg e, zA_A, if_neg (by omega)]; exact a3
theorem np_CV {np' : Nat} (hL : LN ln q cc) (h : CV ln q x n tc G L np fnd mu tk c ns s p t σ) : CV ln q x n tc G L np' fnd mu tk c ns s p t (zsI σ 3 5 (nI np')) := by
  have hq := hL.1
  have e : ∀ o j, ¬ (o = 3 ∧ j = 5) → zI (zsI σ 3 5 (nI np')) o j = zI σ o j := fun o j ho => by rw [zI_I, if_neg ho]
  obtain ⟨⟨⟨s1', s2', s3', s4'⟩, hR, hN, c1, c2⟩, ⟨k1, k2, k3, k4, k5⟩, g3, g4, g5, g6, g7, g8, g9⟩ := h
  exact ⟨⟨⟨(e _ _ (by omega)).trans s1', s2', s3', s4'⟩, hR, ⟨(e _ _ (by omega)).trans hN.1, hN.2⟩, (e _ _ (by omega)).trans c1, by rw [zI_I, if_pos ⟨rfl, rfl⟩]⟩, ⟨(e _ _ (by omega)).trans k1, (e _ _ (by omega)).trans k2, (e _ _ (by omega)).trans k3, k4, k5⟩, (e _ _ (by omega)).trans g3, (e _ _ (by omega)).trans g4, (e _ _ (by omega)).trans g5, (e _ _ (by omega)).trans g6, (e _ _ (by omega)).trans g7, (e _ _ (by omega)).trans g8, (e _ _ (by omega)).trans g9⟩
/-- places are set -/
theorem pm113C (hL : LN ln q cc) (hk : L.2.2 < 4000) (hG : G.2.2.2.2 + L.2.2 ≤ ln 15) : ∀ (m j : Nat) (σ : zSt), j ≤ L.2.2 → L.2.2 < m + j → CV ln q x n tc G (lMx L.2.2 j L) np fnd mu tk c ns s p t σ → wp (fX6_parameters_b113 ln N M m (nI G.2.2.2.2) (nI L.2.2) (nI j) σ) (fun r z => r = nI L.2.2 ∧ CV ln q x n tc G (lPlace L) np fnd mu tk c ns s p t z ∧ fPm q G.2.2.2.2 σ z) := by
  have h15 := hL.2.1
  have e18 := hL.2.2.2.2.1
  intro m
  induction m with
  | zero => intro j σ hj hm h; omega
  | succ m ih =>
    intro j σ hj hm h
    rw [fX6_parameters_b113]
    by_cases e : L.2.2 ≤ j
    · rw [if_pos (nI_le e (by omega))]
      refine wp_s ⟨rfl, CV_c (L := lMx L.2.2 j L) rfl (fun i hi => ⟨rfl, ?_⟩) h, fPm_refl⟩
      have hi2 : i < L.2.2 := hi
      show nI i - 2 - nI L.2.2 = if i < j then nI i - 2 - nI L.2.2 else nI i
      rw [if_pos (by omega)]
    · rw [if_neg (fun w => e (by rw [nI_le' (by omega) (by omega)] at w; exact w))]
      have hset : fX4_setPlace ln N M (nI G.2.2.2.2 + nI j) (nI j - 2 - nI L.2.2) σ = some ((), zsA σ 18 (G.2.2.2.2 + j) (nI j - 2 - nI L.2.2)) := by
        unfold fX4_setPlace
        rw [show nI G.2.2.2.2 + nI j = nI (G.2.2.2.2 + j) from nI_add _ _, show zI σ 4 5 = nI (G.2.2.2.2 + L.2.2) from h.1.2.2.1.1, if_neg (nI_pos (by omega)), if_neg (fun w => by rw [nI_le' (by omega) (by omega)] at w; omega), nI_clamp (by omega), if_neg (ixN (by omega) (by omega)), bnd_e]
      rw [hset, obd_s, bnd_e, nI_1]
      have hV1 := pl_CV (j := j) (v := nI j - 2 - nI L.2.2) hL (show j < (lMx L.2.2 j L).2.2 by show j < L.2.2; omega) h
      have hF1 : fPm q G.2.2.2.2 σ (zsA σ 18 (G.2.2.2.2 + j) (nI j - 2 - nI L.2.2)) := ⟨fun _ _ _ => rfl, fun _ _ _ => rfl, fun _ _ => rfl, fun a i ha => by rw [zA_A, if_neg (by omega)], fun _ _ _ => rfl⟩
      refine wp_mono (ih (j + 1) _ (by omega) (by omega) (CV_c (L := ((lMx L.2.2 j L).1, (fun i => if i = j then nI j - 2 - nI L.2.2 else (lMx L.2.2 j L).2.1 i), (lMx L.2.2 j L).2.2)) (L' := lMx L.2.2 (j + 1) L) rfl (fun i hi => ⟨rfl, ?_⟩) hV1)) (fun r z hz => ⟨hz.1, hz.2.1, fPm_trans hF1 hz.2.2⟩)
      show (if i < j + 1 then nI i - 2 - nI L.2.2 else nI i) = if i = j then nI j - 2 - nI L.2.2 else if i < j then nI i - 2 - nI L.2.2 else nI i
      by_cases e1 : i = j
      · rw [if_pos e1, if_pos (by omega), e1]
      · rw [if_neg e1]
        by_cases e2 : i < j
        · rw [if_pos e2, if_pos (by omega)]
        · rw [if_neg e2, if_neg (by omega)]
end
