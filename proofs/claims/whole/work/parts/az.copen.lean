/-! THE CLASS: a FUNCTION is opened -/
section
variable {ln : Nat → Nat} {N M q cc : Nat} {x : Nat → Int32} {n tc : Nat} {G : gE} {L L0 : lE} {np : Nat} {fnd st : Nat → Int32} {mu : Int32} {tk : yTok} {c ns s p t D pl ms : Nat} {σ τ u : zSt}
theorem CV_nm {G' : gE} {L' : lE} {fnd' : Nat → Int32} (hL : LN ln q cc) (h : CV ln q x n tc G L np fnd mu tk c ns s p t σ) (hI : ∀ o k, o ≠ 4 → o ≠ q → o ≠ 2 → zI u o k = zI σ o k) (hl : ∀ o k, zL u o k = zL σ o k) (hR : ∀ o k, zR u o k = zR σ o k) (h15 : ∀ j, zA u 15 j = zA σ 15 j) (hN : NV G' L' fnd' u) : CV ln q x n tc G' L' np fnd' mu tk c ns s p t u := by
  have hq := hL.1
  obtain ⟨⟨⟨s1', s2', s3', s4'⟩, ⟨r1, r2, r3, r4, r5⟩, -, c1, c2⟩, ⟨k1, k2, k3, k4, k5⟩, g3, g4, g5, g6, g7, g8, g9⟩ := h
  exact ⟨⟨⟨(hI _ _ (by omega) (by omega) (by omega)).trans s1', s2', s3', fun j hj => (h15 j).trans (s4' j hj)⟩, ⟨(hR _ _).trans r1, (hR _ _).trans r2, (hR _ _).trans r3, (hR _ _).trans r4, (hR _ _).trans r5⟩, hN, (hI _ _ (by omega) (by omega) (by omega)).trans c1, (hI _ _ (by omega) (by omega) (by omega)).trans c2⟩, ⟨(hI _ _ (by omega) (by omega) (by omega)).trans k1, (hI _ _ (by omega) (by omega) (by omega)).trans k2, (hI _ _ (by omega) (by omega) (by omega)).trans k3, fun e => (hl _ _).trans (k4 e), fun e => (hl _ _).trans (k5 e)⟩, (hI _ _ (by omega) (by omega) (by omega)).trans g3, (hI _ _ (by omega) (by omega) (by omega)).trans g4, (hI _ _ (by omega) (by omega) (by omega)).trans g5, (hI _ _ (by omega) (by omega) (by omega)).trans g6, (hI _ _ (by omega) (by omega) (by omega)).trans g7, (hI _ _ (by omega) (by omega) (by omega)).trans g8, (hI _ _ (by omega) (by omega) (by omega)).trans g9⟩
theorem ga_NV {w : Int64} {sr a d : Int32} {E : lE} (hE : L.2.2 = 0) (hE2 : E.2.2 = 0) (h : NV G L fnd σ) (h45 : zI u 4 5 = nI (G.2.2.2.2 + 1)) (hlo : ∀ r i, 17 ≤ r → r ≤ 20 → i < G.2.2.2.2 → zA u r i = zA σ r i) (hB : ∀ i, i < G.2.2.2.2 → zB u 16 i = zB σ 16 i) (e1 : zB u 16 G.2.2.2.2 = w) (e2 : zA u 17 G.2.2.2.2 = sr) (e3 : zA u 18 G.2.2.2.2 = a) (e4 : zA u 19 G.2.2.2.2 = d) (e5 : sr = 2 → zA u 20 G.2.2.2.2 = fnd G.2.2.2.2) : NV (gAdd G w sr a d) E fnd u := by
  refine ⟨by rw [h45, hE2]; rfl, fun g hg => ?_, fun j hj => by omega⟩
  have hg2 : g < G.2.2.2.2 + 1 := hg
  unfold gAdd
  by_cases e : g = G.2.2.2.2
  · subst e
    simp only [if_pos]
    exact ⟨e1, e2, e3, e4, e5⟩
  · obtain ⟨a1, a2, a3, a4, a5⟩ := h.2.1 g (by omega)
    simp only [if_neg e]
    exact ⟨(hB g (by omega)).trans a1, (hlo 17 g (by omega) (by omega) (by omega)).trans a2, (hlo 18 g (by omega) (by omega) (by omega)).trans a3, (hlo 19 g (by omega) (by omega) (by omega)).trans a4, fun k => (hlo 20 g (by omega) (by omega) (by omega)).trans (a5 k)⟩
theorem gc_NV {w : Int64} {a d d' : Int32} (h : NV (gAdd G w 2 a d') L fnd σ) (h45 : zI u 4 5 = zI σ 4 5) (h16 : ∀ i, zB u 16 i = zB σ 16 i) (hr : ∀ r i, 17 ≤ r → r ≤ 20 → ¬ (r = 19 ∧ i = G.2.2.2.2) → zA u r i = zA σ r i) (hd : zA u 19 G.2.2.2.2 = d) : NV (gAdd G w 2 a d) L fnd u := by
  refine ⟨h45.trans h.1, fun g hg => ?_, fun j hj => ?_⟩
  · obtain ⟨a1, a2, a3, a4, a5⟩ := h.2.1 g hg
    refine ⟨(h16 g).trans a1, (hr _ _ (by omega) (by omega) (by omega)).trans a2, (hr _ _ (by omega) (by omega) (by omega)).trans a3, ?_, fun k => (hr _ _ (by omega) (by omega) (by omega)).trans (a5 k)⟩
    unfold gAdd at a4 ⊢
    by_cases e : g = G.2.2.2.2
    · subst e
      simp only [if_pos]
      exact hd
    · simp only [if_neg e] at a4 ⊢
      rw [hr _ _ (by omega) (by omega) (by omega)]
      exact a4
  · obtain ⟨a1, a2, a3⟩ := h.2.2 j hj
    have hgn : (gAdd G w 2 a d').2.2.2.2 = G.2.2.2.2 + 1 := rfl
    have hgn2 : (gAdd G w 2 a d).2.2.2.2 = G.2.2.2.2 + 1 := rfl
    rw [hgn] at a1 a2 a3
    rw [hgn2]
    exact ⟨(h16 _).trans a1, (hr _ _ (by omega) (by omega) (by omega)).trans a2, (hr _ _ (by omega) (by omega) (by omega)).trans a3⟩
/-- count, node, main -/
theorem tlO2S {w : Int64} {k m : Nat} (hL : LN ln q cc) (hk : k ≤ ln 15) (hG : G.2.2.2.2 < k) (hs : s < ln 15) (hR : RF q σ) (h45 : zI σ 4 5 = nI k) (hsz : zI σ (q + 2) 6 = nI (s + 1)) (h27 : zI σ 2 7 = nI G.2.2.2.2) (hm : m ≤ 8) :
    ∃ u, tlO2 ln N M w (nI p) (nI s) (nI m) σ = fX6_openFunction_b135 ln N M u ∧ (∀ o j, ¬ (o = q ∧ j = 3) → zI u o j = zI σ o j) ∧ (∀ o j, zL u o j = zL σ o j) ∧ (∀ o j, zR u o j = zR σ o j) ∧ (∀ a i, zB u a i = zB σ a i) ∧ (∀ a i, ¬ (a = 19 ∧ i = G.2.2.2.2) → ¬ (a = 6 * q - 20 ∧ i = s) → ¬ (a = q + 36 ∧ i = 1) → zA u a i = zA σ a i) ∧ zA u 19 G.2.2.2.2 = nI m ∧ zA u (6 * q - 20) s = nI m ∧ zI u q 3 = (if w = yMain ∧ m = 0 then nI s else zI σ q 3) ∧ (1 < ln (q + 36) → zA u (q + 36) 1 = if w = yMain ∧ m = 0 then nI p else zA σ (q + 36) 1) := by
  have hq := hL.1
  have h15 := hL.2.1
  have e19 := hL.2.2.2.2.2.1
  have hcc : ln (q + 36) ≤ 4096 := by have := hL.2.2.2.2.2.2.2.2.2.2.2; omega
  unfold tlO2
  have hset : fX4_setCount ln N M (nI G.2.2.2.2) (nI m) σ = some ((), zsA σ 19 G.2.2.2.2 (nI m)) := by
    unfold fX4_setCount
    rw [h45, if_neg (nI_pos (by omega)), if_neg (fun w => by rw [nI_le' (by omega) (by omega)] at w; omega), nI_clamp (by omega), if_neg (ixN (by omega) (by omega)), bnd_e]
  rw [h27, hset, obd_s, rbT hL.1 (show zR (zsA σ 19 G.2.2.2.2 (nI m)) 2 5 = q + 3 from hR.2.2.2.1)]
  have hsA : fX9_setA ln N M (q + 2) (nI s) (nI m) (zsA σ 19 G.2.2.2.2 (nI m)) = some ((), zsA (zsA σ 19 G.2.2.2.2 (nI m)) (6 * q - 20) s (nI m)) := by
    unfold fX9_setA
    rw [show 6 * (q + 2) - 32 = 6 * q - 20 by omega, LN_t hL (a := 6 * q - 20) (by omega) (by omega), show zI (zsA σ 19 G.2.2.2.2 (nI m)) (q + 2) 6 = nI (s + 1) from hsz, if_neg (nI_pos (by omega)), if_neg (fun w => by rw [nI_le' (by omega) (by omega)] at w; omega), nI_clamp (by omega), if_neg (ixN (by omega) (by omega)), bnd_e]
  rw [hsA, obd_s]
  have hz1 : ∀ a i, ¬ (a = 19 ∧ i = G.2.2.2.2) → ¬ (a = 6 * q - 20 ∧ i = s) → zA (zsA (zsA σ 19 G.2.2.2.2 (nI m)) (6 * q - 20) s (nI m)) a i = zA σ a i := fun a i c1 c2 => by rw [zA_A, if_neg c2, zA_A, if_neg c1]
  have hz2 : zA (zsA (zsA σ 19 G.2.2.2.2 (nI m)) (6 * q - 20) s (nI m)) 19 G.2.2.2.2 = nI m := by rw [zA_A, if_neg (by omega), zA_A, if_pos ⟨rfl, rfl⟩]
  have hz3 : zA (zsA (zsA σ 19 G.2.2.2.2 (nI m)) (6 * q - 20) s (nI m)) (6 * q - 20) s = nI m := by rw [zA_A, if_pos ⟨rfl, rfl⟩]
  have hzR : ∀ o j, zR (zsA (zsA σ 19 G.2.2.2.2 (nI m)) (6 * q - 20) s (nI m)) o j = zR σ o j := fun _ _ => rfl
  have hzI : ∀ o j, zI (zsA (zsA σ 19 G.2.2.2.2 (nI m)) (6 * q - 20) s (nI m)) o j = zI σ o j := fun _ _ => rfl
  have hzL : ∀ o j, zL (zsA (zsA σ 19 G.2.2.2.2 (nI m)) (6 * q - 20) s (nI m)) o j = zL σ o j := fun _ _ => rfl
  have hzB : ∀ o j, zB (zsA (zsA σ 19 G.2.2.2.2 (nI m)) (6 * q - 20) s (nI m)) o j = zB σ o j := fun _ _ => rfl
  revert hz1 hz2 hz3 hzR hzI hzL hzB
  generalize zsA (zsA σ 19 G.2.2.2.2 (nI m)) (6 * q - 20) s (nI m) = v
  intro hz1 hz2 hz3 hzR hzI hzL hzB
  have plain : ¬ (w = yMain ∧ m = 0) → ∃ u, fX6_openFunction_b135 ln N M v = fX6_openFunction_b135 ln N M u ∧ (∀ o j, ¬ (o = q ∧ j = 3) → zI u o j = zI σ o j) ∧ (∀ o j, zL u o j = zL σ o j) ∧ (∀ o j, zR u o j = zR σ o j) ∧ (∀ a i, zB u a i = zB σ a i) ∧ (∀ a i, ¬ (a = 19 ∧ i = G.2.2.2.2) → ¬ (a = 6 * q - 20 ∧ i = s) → ¬ (a = q + 36 ∧ i = 1) → zA u a i = zA σ a i) ∧ zA u 19 G.2.2.2.2 = nI m ∧ zA u (6 * q - 20) s = nI m ∧ zI u q 3 = (if w = yMain ∧ m = 0 then nI s else zI σ q 3) ∧ (1 < ln (q + 36) → zA u (q + 36) 1 = if w = yMain ∧ m = 0 then nI p else zA σ (q + 36) 1) := fun hc => ⟨v, rfl, fun o j _ => hzI o j, hzL, hzR, hzB, fun a i c1 c2 _ => hz1 a i c1 c2, hz2, hz3, by rw [if_neg hc]; exact hzI _ _, fun _ => by rw [if_neg hc]; exact hz1 _ _ (by omega) (by omega)⟩
  by_cases c1 : w = yMain
  · rw [if_pos (show lg_cmp w (1835100526 : Int64) = 0 from (lg_cmp_eq _ _).mpr c1)]
    by_cases c2 : m = 0
    · rw [if_pos (by rw [c2]; rfl), rbP hL.1 (show zR v 2 4 = q + 1 from (hzR _ _).trans hR.2.2.1), bnd_e, rbC hL.1 (show zR (zsI v q 3 (nI s)) 2 6 = q + 5 from (hzR _ _).trans hR.2.2.2.2)]
      obtain ⟨z, z1, z2, z3, z4, z5, z6, z7⟩ := setC (N := N) (M := M) (σ := zsI v q 3 (nI s)) (h := 1) (v := nI p) hL (by omega)
      rw [show (1 : Int32) = nI 1 from rfl, z1, obd_s]
      have hc : w = yMain ∧ m = 0 := ⟨c1, c2⟩
      refine ⟨z, rfl, fun o j hj => ?_, fun o j => (z5 o j).trans (hzL o j), fun o j => (z6 o j).trans (hzR o j), fun a i => (z7 a i).trans (hzB a i), fun a i e1 e2 e3 => ?_, ?_, ?_, ?_, fun hl => ?_⟩
      · rw [z4, zI_I, if_neg hj]; exact hzI o j
      · rw [z3 _ _ (by omega), zA_I]; exact hz1 a i e1 e2
      · rw [z3 _ _ (by omega), zA_I]; exact hz2
      · rw [z3 _ _ (by omega), zA_I]; exact hz3
      · rw [if_pos hc, z4, zI_I, if_pos ⟨rfl, rfl⟩]
      · rw [if_pos hc]; exact z2 hl
    · rw [if_neg (fun w => c2 (by have := congrArg Int32.toInt w; rw [nI_toInt (by omega)] at this; have z0 : (0 : Int32).toInt = 0 := rfl; omega))]
      exact plain (fun e => c2 e.2)
  · rw [if_neg (show ¬ lg_cmp w (1835100526 : Int64) = 0 from fun e => c1 ((lg_cmp_eq _ _).mp e))]
    exact plain (fun e => c1 e.1)
end
