/-! THE REFERENCE MAKES CODE: all of a tree -/
theorem mkAll {N : Nat} {G : gE} {st : Nat → Int32} {np : Int32} {gs npN K : Nat} (hG : G.2.2.2.2 ≤ 1400) : ∀ t : fT, (∀ m, wf G gs npN K t 0 m → MKp N G st np 2 t) ∧ (∀ m, wf G gs npN K t 1 m → MKp N G st np 0 t) ∧ (∀ m, wf G gs npN K t 2 m → isZ t ∨ (MKl N G st np 1 t ∧ ∃ a q, t = fC a q)) ∧ (∀ m, wf G gs npN K t 3 m → isZ t ∨ (MKl N G st np 3 t ∧ ∃ a q, t = fC a q)) ∧ (∀ m, wf G gs npN K t 4 m → isZ t) := by
  apply ff_ind
  · intro t hz
    refine ⟨fun m h => ?_, fun m h => ?_, fun m h => Or.inl hz, fun m h => Or.inl hz, fun m h => hz⟩
    · rw [wf_isZ hz] at h; unfold wfZ at h; omega
    · rw [wf_isZ hz] at h; unfold wfZ at h; omega
  · intro k v w A B C hA hB hC
    refine ⟨fun m h => ?_, fun m h => ?_, fun m h => ?_, fun m h => ?_, fun m h => ?_⟩
    · rw [wf_N] at h
      unfold wfN at h
      rw [if_pos rfl] at h
      by_cases k0 : k = 1 ∨ k = 10
      · exact mkE0 (by omega)
      rw [if_neg k0] at h
      by_cases k2 : k = 2
      · exact mkE0 (by omega)
      rw [if_neg k2] at h
      by_cases k3 : k = 3
      · exact mkE0 (by omega)
      rw [if_neg k3] at h
      by_cases k4 : k = 4
      · rw [if_pos k4] at h
        exact mkE1 (by omega) (hA.1 _ h.1)
      rw [if_neg k4] at h
      by_cases k5 : k = 5
      · rw [if_pos k5] at h
        exact mkE1 (by omega) (hA.1 _ h.1)
      rw [if_neg k5] at h
      by_cases k6 : k = 6
      · rw [if_pos k6] at h
        subst k6
        exact mkE2 (hA.1 _ h.1) (hB.1 _ h.2.1)
      rw [if_neg k6] at h
      by_cases k7 : k = 7 ∨ k = 8
      · rw [if_pos k7] at h
        rcases k7 with rfl | rfl
        · exact mkE7 (hA.1 _ h.1) (hB.1 _ h.2)
        · exact mkE8 (hA.1 _ h.1) (hB.1 _ h.2)
      rw [if_neg k7] at h
      by_cases k9 : k = 9
      · rw [if_pos k9] at h
        subst k9
        obtain ⟨a1, a2, a3, a4, a5, a6, a7⟩ := h
        exact mkCall (hA.2.2.2.1 _ a4) a1 a5 a6 hG
      rw [if_neg k9] at h
      exact h.elim
    · rw [wf_N] at h
      unfold wfN at h
      rw [if_neg (by decide), if_pos rfl] at h
      by_cases k0 : k = 20
      · rw [if_pos k0] at h
        subst k0
        exact mkS20 (hA.2.2.1 _ h)
      rw [if_neg k0] at h
      by_cases k1 : k = 21
      · rw [if_pos k1] at h
        subst k1
        rcases h.1 with q | q
        · exact mkS21 (hA.2.2.2.2 _ q)
        · exact mkS1 (by omega) (hA.1 _ q) (wf_isN q (Or.inl rfl))
      rw [if_neg k1] at h
      by_cases k2 : k = 22
      · rw [if_pos k2] at h
        subst k2
        rcases h.2.2 with q | q
        · exact mkS22 (hA.1 _ h.1) (hB.2.1 _ h.2.1) (hC.2.2.2.2 _ q)
        · exact mkS22e (hA.1 _ h.1) (hB.2.1 _ h.2.1) (hC.2.1 _ q) (wf_isN q (Or.inr rfl))
      rw [if_neg k2] at h
      by_cases k3 : k = 23
      · rw [if_pos k3] at h
        subst k3
        exact mkS23 (hA.1 _ h.1) (hB.2.1 _ h.2)
      rw [if_neg k3] at h
      by_cases k4 : k = 24 ∨ k = 25 ∨ k = 29
      · rw [if_pos k4] at h
        exact mkS1 (by omega) (hA.1 _ h) (wf_isN h (Or.inl rfl))
      rw [if_neg k4] at h
      by_cases k6 : k = 26
      · rw [if_pos k6] at h
        exact mkS1 (by omega) (hA.1 _ h.1) (wf_isN h.1 (Or.inl rfl))
      rw [if_neg k6] at h
      by_cases k7 : k = 27
      · rw [if_pos k7] at h
        exact mkS1 (by omega) (hA.1 _ h.1) (wf_isN h.1 (Or.inl rfl))
      rw [if_neg k7] at h
      by_cases k8 : k = 28
      · rw [if_pos k8] at h
        subst k8
        exact mkS28 (hA.1 _ h.1) (hB.1 _ h.2.1)
      rw [if_neg k8] at h
      subst h
      exact mkS30
    · rw [wf_N] at h; unfold wfN at h; rw [if_neg (by decide), if_neg (by decide)] at h; exact h.elim
    · rw [wf_N] at h; unfold wfN at h; rw [if_neg (by decide), if_neg (by decide)] at h; exact h.elim
    · rw [wf_N] at h; unfold wfN at h; rw [if_neg (by decide), if_neg (by decide)] at h; exact h.elim
  · intro t r ht hr
    refine ⟨fun m h => ?_, fun m h => ?_, fun m h => Or.inr ⟨?_, t, r, rfl⟩, fun m h => Or.inr ⟨?_, t, r, rfl⟩, fun m h => ?_⟩
    · rw [wf_C] at h; unfold wfC at h; rw [if_neg (by decide), if_neg (by decide)] at h; exact h.elim
    · rw [wf_C] at h; unfold wfC at h; rw [if_neg (by decide), if_neg (by decide)] at h; exact h.elim
    · rw [wf_C] at h; unfold wfC at h; rw [if_pos rfl] at h
      exact mkC (h := 0) (Or.inl ⟨rfl, rfl⟩) (ht.2.1 _ h.1) (hr.2.2.1 _ h.2)
    · rw [wf_C] at h; unfold wfC at h; rw [if_neg (by decide), if_pos rfl] at h
      obtain ⟨j, q1, q2, q3⟩ := h
      exact mkC (h := 2) (Or.inr ⟨rfl, rfl⟩) (ht.1 _ q2) (hr.2.2.2.1 _ q3)
    · rw [wf_C] at h; unfold wfC at h; rw [if_neg (by decide), if_neg (by decide)] at h; exact h.elim
/-- the code of a BLOCK -/
theorem makeSR {N : Nat} {G : gE} {st : Nat → Int32} {np : Int32} {gs npN K lo hi p c m : Nat} {t : fT} {i : Int32} {τ : zSt} (hG : G.2.2.2.2 ≤ 1400) (hw : wf G gs npN K t 1 m) (hr : rep τ t lo hi i) (hR : RM G st np τ p c) (hp : p + (gl t).2 ≤ 29000) (hc : cN t ≤ 1900) (hN : 12000 ≤ N) :
    ∃ u, fX12_makeS N i τ = some ((), u) ∧ fM lo hi p 0 τ u ∧ RM G st np u (p + (gl t).2) 0 ∧ cd u p ((gn st np t).2 p) := by
  unfold fX12_makeS
  have hR1 : RM G st np (tsS (zsI τ 0 63 0) 0 0 i) p 1 := RM_ts (RM_63 (b := 0) hR)
  have hF1 : fM lo hi p 0 τ (tsS (zsI τ 0 63 0) 0 0 i) := fM_ts (fM_63 fM_refl) (Nat.le_refl _)
  rw [bnd_e, taskR (b := 0) (by rw [zI_I, if_pos ⟨rfl, rfl⟩]; rfl) (by omega), obd_s]
  obtain ⟨u, k, g1, g2, g3, g4, g5⟩ := (mkAll (N := N) (st := st) (np := np) hG t).2.1 m hw lo hi i _ p 0 (rep_fM hF1 hr) hR1 ts_36 ts_37 hp (by omega)
  refine ⟨u, ?_, fM_trans hF1 g3 (Nat.le_refl _) (Nat.le_refl _) (Nat.le_refl _) (Nat.le_refl _), g4, g5⟩
  obtain ⟨n, hn⟩ : ∃ n, N = (n + 1) + k := ⟨N - k - 1, by omega⟩
  have key := g1 (n + 1)
  rw [← hn] at key
  rw [key, fX12_makeS_b11, g4.2.2, if_pos (show nI 0 ≤ 0 by decide)]
