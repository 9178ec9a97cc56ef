/-! THE REFERENCE'S READER: the pile of what is open; a token that is none behind an S; LOCALS -/
def SB (x : Nat → Int32) (n tc : Nat) (G : gE) (L : lE) (tk : yTok) (c ns nd bf pl fn ms o : Nat) (τ : zSt) : Prop := SV x n tc G L tk c ns nd τ ∧ zI τ 0 33 = nI bf ∧ zI τ 0 34 = nI pl ∧ zI τ 0 35 = nI fn ∧ zA τ 12 fn = nI ms ∧ zI τ 0 46 = nI o
def WS (τ : zSt) (o : Nat) : Prop := ∀ i, i < o → (∃ m, m < 4200 ∧ zA τ 23 i = nI m) ∧ (zA τ 22 i = 0 ∨ zA τ 22 i = 1 ∨ zA τ 22 i = 2 ∨ zA τ 22 i = 3) ∧ (zA τ 22 i = 0 → (zA τ 24 i = -1 ∨ ∃ j, j < 4200 ∧ zA τ 24 i = nI j) ∧ (zA τ 25 i = 0 ∨ zA τ 25 i = 1)) ∧ (i = 0 → zA τ 22 0 = 0)
theorem WS_cong {τ u : zSt} {o : Nat} (h : WS τ o) (hf : ∀ a i, 22 ≤ a → a ≤ 25 → i < o → zA u a i = zA τ a i) : WS u o := by
  intro i hi
  rw [hf 22 i (by omega) (by omega) hi, hf 23 i (by omega) (by omega) hi, hf 24 i (by omega) (by omega) hi, hf 25 i (by omega) (by omega) hi]
  obtain ⟨h1, h2, h3, h4⟩ := h i hi
  exact ⟨h1, h2, h3, fun e => by rw [hf 22 0 (by omega) (by omega) (by omega)]; exact h4 e⟩
theorem WS_le {τ : zSt} {o o' : Nat} (h : WS τ o) (ho : o' ≤ o) : WS τ o' := fun i hi => h i (by omega)
/-- what an S leaves as it was: nodes below lo, open ones below o, names below ln -/
def fB (lo o ln fn : Nat) (τ u : zSt) : Prop := (∀ j, ¬ (j = 17 ∨ j = 18 ∨ j = 19 ∨ j = 21 ∨ j = 30 ∨ j = 33 ∨ j = 34 ∨ j = 36 ∨ j = 37 ∨ j = 38 ∨ j = 46 ∨ j = 54) → zI u 0 j = zI τ 0 j) ∧
  (∀ a i, ¬ (15 ≤ a ∧ a ≤ 21 ∧ lo ≤ i) → ¬ (22 ≤ a ∧ a ≤ 28 ∧ o ≤ i) → ¬ (29 ≤ a ∧ a ≤ 33) → ¬ (a = 14 ∧ ln ≤ i) → ¬ (a = 12 ∧ i = fn) → zA u a i = zA τ a i) ∧ (∀ a i, ¬ (a = 13 ∧ ln ≤ i) → zB u a i = zB τ a i)
theorem fB_refl {lo o ln fn : Nat} {τ : zSt} : fB lo o ln fn τ τ := ⟨fun _ _ => rfl, fun _ _ _ _ _ _ _ => rfl, fun _ _ _ => rfl⟩
theorem fB_trans {lo o ln fn lo' o' ln' : Nat} {τ u v : zSt} (h : fB lo o ln fn τ u) (h2 : fB lo' o' ln' fn u v) (h3 : lo ≤ lo') (h4 : o ≤ o') (h5 : ln ≤ ln') : fB lo o ln fn τ v :=
  ⟨fun j hj => (h2.1 j hj).trans (h.1 j hj), fun a i q1 q2 q3 q4 q5 => (h2.2.1 a i (by omega) (by omega) q3 (by omega) q5).trans (h.2.1 a i q1 q2 q3 q4 q5), fun a i q => (h2.2.2 a i (by omega)).trans (h.2.2 a i q)⟩
theorem fE_B {lo o ln fn : Nat} {τ u : zSt} (h : fE lo 0 τ u) : fB lo o ln fn τ u := ⟨fun j hj => h.1 j (by omega), fun a i q1 q2 q3 q4 q5 => h.2.1 a i q1 (by omega), fun a i _ => h.2.2 a i⟩
theorem fB_P {lo o ln fn : Nat} {τ u : zSt} (h : fB lo o ln fn τ u) : fP τ u := ⟨fun j hj => h.1 j (by omega), fun a i ha => h.2.1 a i (by omega) (by omega) (by omega) (by omega) (by omega)⟩
theorem fB_I {lo o ln fn k : Nat} {v : Int32} {τ u : zSt} (h : fB lo o ln fn τ u) (hk : k = 17 ∨ k = 18 ∨ k = 19 ∨ k = 21 ∨ k = 30 ∨ k = 33 ∨ k = 34 ∨ k = 36 ∨ k = 37 ∨ k = 38 ∨ k = 46 ∨ k = 54) : fB lo o ln fn τ (zsI u 0 k v) := by
  refine ⟨fun j hj => ?_, h.2.1, h.2.2⟩
  rw [zI_I, if_neg (by rintro ⟨-, rfl⟩; exact hj hk)]
  exact h.1 j hj
theorem fB_A {lo o ln fn a i : Nat} {v : Int32} {τ u : zSt} (h : fB lo o ln fn τ u) (hk : (15 ≤ a ∧ a ≤ 21 ∧ lo ≤ i) ∨ (22 ≤ a ∧ a ≤ 28 ∧ o ≤ i) ∨ (29 ≤ a ∧ a ≤ 33) ∨ (a = 14 ∧ ln ≤ i) ∨ (a = 12 ∧ i = fn)) : fB lo o ln fn τ (zsA u a i v) := by
  refine ⟨h.1, fun b j q1 q2 q3 q4 q5 => ?_, h.2.2⟩
  rw [zA_A, if_neg (by omega)]
  exact h.2.1 b j q1 q2 q3 q4 q5
theorem fB_Bz {lo o ln fn i : Nat} {v : Int64} {τ u : zSt} (h : fB lo o ln fn τ u) (hk : ln ≤ i) : fB lo o ln fn τ (zsB u 13 i v) := by
  refine ⟨h.1, h.2.1, fun b j q => ?_⟩
  rw [zB_B, if_neg (by omega)]
  exact h.2.2 b j q
theorem fB_nx {lo o ln fn p n : Nat} {x : Nat → Int32} {τ u : zSt} (h : fB lo o ln fn τ u) : fB lo o ln fn τ (nxS x n p u) :=
  ⟨fun j hj => (nxS_I (by omega)).trans (h.1 j hj), fun a i q1 q2 q3 q4 q5 => nxS_A.trans (h.2.1 a i q1 q2 q3 q4 q5), fun a i q => nxS_B.trans (h.2.2 a i q)⟩
theorem fB_WS {lo o ln fn o' : Nat} {τ u : zSt} (h : fB lo o ln fn τ u) (hw : WS τ o') (ho : o' ≤ o) : WS u o' := WS_cong hw (fun a i q1 q2 q3 => h.2.1 a i (by omega) (by omega) (by omega) (by omega) (by omega))
/-- what is wrong has been told, or a token that is none waits to be told -/
def EB (x : Nat → Int32) (n : Nat) (e : Int32) (τ u : zSt) : Prop := FX x n e τ u ∨ (PD e u ∧ rD x n 1200 u ∧ fP τ u)
theorem EB_tr {x : Nat → Int32} {n : Nat} {e : Int32} {τ u z : zSt} (h : EB x n e u z) (hp : fP τ u) : EB x n e τ z := by
  rcases h with ⟨h1, h2, h3⟩ | ⟨h1, h2, h3⟩
  · exact Or.inl ⟨h1, h2, fP_trans hp h3⟩
  · exact Or.inr ⟨h1, h2, fP_trans hp h3⟩
theorem bkE {N m : Nat} {x1 r : Int32} {u : zSt} {Q : Int32 → zSt → Prop} (h21 : zI u 0 21 ≠ 0) (hQ : Q x1 u) : wp (fX12_block_b18 N (m + 1) x1 r u) Q := by
  rw [fX12_block_b18, isWellF h21, obd_s, if_pos rfl]
  exact wp_s hQ
theorem bkX {N m o : Nat} {x1 r : Int32} {u : zSt} (h21 : zI u 0 21 = 0) (h46 : zI u 0 46 = nI (o + 1)) (ho : o < 100) : fX12_block_b18 N (m + 1) x1 r u = if zA u 22 o = 0 then obd (fX12_inBlock N r u) (fun r u => fX12_block_b18 N m x1 r u) else obd (fX12_inBranch N r u) (fun r u => fX12_block_b18 N m x1 r u) := by
  rw [fX12_block_b18, isWellT h21, obd_s, if_neg (by decide), h46, if_neg (nI_nle (by omega) (by omega)), nI_pred, nI_clamp (by omega), if_neg (ixN ho (by omega))]
  rfl
theorem stP {N : Nat} {e : Int32} {u : zSt} (h : PD e u) : fX12_statement N u = some (-1, zsI u 0 21 e) := by
  have hK := PD_K h
  have h21 := h.1
  unfold fX12_statement
  rw [isWellT h21, obd_s, if_neg (by decide), bnd_e, isSignF (sF51 h21 hK (by decide)), obd_s, if_pos rfl, isWordF (wF43 h21 hK (by decide)), obd_s, if_pos rfl, isWordF (wF45 h21 hK (by decide)), obd_s, if_pos rfl, isWordF (wF46 h21 hK (by decide)), obd_s, if_pos rfl, isWordF (wF47 h21 hK (by decide)), obd_s, if_pos rfl, isSignF (sF56 h21 hK (by decide)), obd_s, if_pos rfl, isWellT h21, obd_s, if_neg (by decide), if_neg (fun q => absurd ((kd40 hK.1 hK.2).mp q) (by decide))]
  unfold fX12_statement_b225
  rw [strayR, stS_eq h21, stE_P h, obd_s]
theorem PD_A {e v : Int32} {a i : Nat} {u : zSt} (h : PD e u) : PD e (zsA u a i v) := h
theorem PD_I {e v : Int32} {k : Nat} {u : zSt} (h : PD e u) (hk : k ≠ 18 ∧ k ≠ 19 ∧ k ≠ 21) : PD e (zsI u 0 k v) := by
  unfold PD
  rw [zI_I, if_neg (by omega), zI_I, if_neg (by omega), zI_I, if_neg (by omega)]
  exact h
/-- a BLOCK goes on where the token is none -/
theorem pendN {x : Nat → Int32} {n N m o : Nat} {x1 e : Int32} {u : zSt} {Q : Int32 → zSt → Prop} (h : PD e u) (he : e ≠ 0) (hr : rD x n 1200 u) (h46 : zI u 0 46 = nI (o + 1)) (ho : o < 100) (h22 : zA u 22 o = 0) (h25 : zA u 25 o = 0 ∨ zA u 25 o = 1) (hQ : ∀ r z, EB x n e u z → Q r z) : wp (fX12_block_b18 N (m + 2) x1 (-1) u) Q := by
  have hK := PD_K h
  rw [bkX h.1 h46 ho, if_pos h22]
  unfold fX12_inBlock
  rw [bnd_e, if_pos (by decide), isSignF (sF52 h.1 hK (by decide)), obd_s, if_pos rfl, h46, nI_pred, nI_clamp (by omega), if_neg (ixN ho (by omega))]
  have fin : wp (obd (fX12_inBlock_b106 N (nI o) (nI o) u) (fun r u => fX12_block_b18 N (m + 1) x1 r u)) Q := by
    unfold fX12_inBlock_b106 fX12_inBlock_b107
    have e25 : zA (zsA u 25 o 0) 25 o = 0 := by rw [zA_A, if_pos ⟨rfl, rfl⟩]
    rw [nI_clamp (by omega), if_neg (ixN ho (by omega)), if_neg (by decide), bnd_e, if_neg (ixN ho (by omega)), if_pos e25, stP (PD_A h), obd_s, obd_s]
    have hf : FXb x n 1200 e u (zsI (zsA u 25 o 0) 0 21 e) := FX_tr (FX_mk (rD_A hr (by omega))) (fP_A fP_refl (by omega))
    exact bkE (by rw [hf.1]; exact he) (hQ _ _ (Or.inl ⟨hf.1, hf.2.1, hf.2.2⟩))
  rcases h25 with q | q
  · rw [q, if_pos rfl]
    exact fin
  · rw [q, if_neg (by decide), isWordF (wF42 h.1 hK (by decide)), obd_s, if_pos rfl]
    exact fin
/-- an S has ended, and the token behind it is none -/
theorem pendB {x : Nat → Int32} {n N : Nat} {x1 e : Int32} {Q : Int32 → zSt → Prop} (he : e ≠ 0) : ∀ (o m i : Nat) (u : zSt), PD e u → rD x n 1200 u → zI u 0 46 = nI o → o < 100 → WS u o → i < 4200 → o + 3 ≤ m → (∀ r z, EB x n e u z → Q r z) → wp (fX12_block_b18 N m x1 (nI i) u) Q := by
  intro o
  induction o with
  | zero =>
    intro m i u h hr h46 _ _ _ hm hQ
    obtain ⟨m, rfl⟩ : ∃ g, m = g + 1 := ⟨m - 1, by omega⟩
    rw [fX12_block_b18, isWellT h.1, obd_s, if_neg (by decide), if_pos (by rw [h46]; decide)]
    exact wp_s (hQ _ _ (Or.inr ⟨h, hr, fP_refl⟩))
  | succ o ih =>
    intro m i u h hr h46 ho hW hi hm hQ
    obtain ⟨m, rfl⟩ : ∃ g, m = g + 3 := ⟨m - 3, by omega⟩
    obtain ⟨⟨mn, hmn, w23⟩, w22, w24, -⟩ := hW o (by omega)
    have hK := PD_K h
    rw [bkX h.1 h46 (by omega)]
    by_cases h22 : zA u 22 o = 0
    · rw [if_pos h22]
      obtain ⟨w24, w25⟩ := w24 h22
      unfold fX12_inBlock
      rw [bnd_e, if_neg (nI_pos (by omega))]
      unfold fX12_append
      rw [bnd_e, h46, nI_pred, nI_clamp (by omega), if_neg (ixN (show o < 100 by omega) (by omega))]
      have fin : ∀ (ar j : Nat), ar = 16 ∨ ar = 21 → wp (fX12_block_b18 N (m + 2) x1 (-1) (zsA (zsA u ar j (nI i)) 24 o (nI i))) Q := by
        intro ar j har
        refine pendN (x := x) (n := n) (o := o) (PD_A (PD_A h)) he (rD_A (rD_A hr (by omega)) (by omega)) h46 (by omega) ?_ ?_ (fun r z hz => hQ r z (EB_tr hz (fP_A (fP_A fP_refl (by omega)) (by omega))))
        · rw [zA_A, if_neg (by omega), zA_A, if_neg (by omega)]; exact h22
        · rw [zA_A, if_neg (by omega), zA_A, if_neg (by omega)]; exact w25
      rcases w24 with q | ⟨j, hj, q⟩
      · rw [q, if_pos rfl, if_neg (ixN (show o < 100 by omega) (by omega)), w23, nI_clamp (by omega), if_neg (ixN hmn (by omega)), bnd_e]
        unfold fX12_append_b44
        rw [nI_clamp (by omega), if_neg (ixN (show o < 100 by omega) (by omega)), bnd_e, obd_s, obd_s]
        exact fin 16 mn (Or.inl rfl)
      · have hne : ¬ nI j = -1 := fun q => by have h1 := nI_pos' (n := j) (by omega); rw [q] at h1; exact absurd h1 (by decide)
        rw [q, if_neg hne, if_neg (ixN (show o < 100 by omega) (by omega)), nI_clamp (by omega), if_neg (ixN hj (by omega)), bnd_e]
        unfold fX12_append_b44
        rw [nI_clamp (by omega), if_neg (ixN (show o < 100 by omega) (by omega)), bnd_e, obd_s, obd_s]
        exact fin 21 j (Or.inr rfl)
    · rw [if_neg h22]
      unfold fX12_inBranch
      rw [if_pos (nI_pos' (by omega)), bnd_e, h46, nI_pred, nI_clamp (by omega), if_neg (ixN (show o < 100 by omega) (by omega)), bnd_e, if_neg (ixN (show o < 100 by omega) (by omega)), w23, nI_clamp (by omega)]
      have fin : ∀ (ar : Nat) (v : Int32), ar = 17 ∨ ar = 18 → wp (fX12_block_b18 N (m + 2) x1 (nI mn) (zsI (zsI (zsA u ar mn (nI i)) 0 37 v) 0 46 (nI o))) Q := by
        intro ar v har
        refine ih (m + 2) mn _ (PD_I (PD_I (PD_A h) (by omega)) (by omega)) (rD_I (rD_I (rD_A hr (by omega)) (by omega)) (by omega)) (by rw [zI_I, if_pos ⟨rfl, rfl⟩]) (by omega) (WS_cong (WS_le hW (by omega)) (fun a i q1 q2 q3 => ?_)) hmn (by omega) (fun r z hz => hQ r z (EB_tr hz (fP_I (fP_I (fP_A fP_refl (by omega)) (by omega)) (by omega))))
        rw [zA_I, zA_I, zA_A, if_neg (by omega)]
      by_cases h2 : zA u 22 o = 2
      · have e46 : zI (zsI (zsA u 18 mn (nI i)) 0 37 (zI (zsA u 18 mn (nI i)) 0 37 - 2)) 0 46 = nI (o + 1) := by rw [zI_I, if_neg (by omega), zI_A]; exact h46
        rw [if_pos h2, if_neg (ixN hmn (by omega)), bnd_e, bnd_e, bnd_e, obd_s, e46, nI_pred]
        exact fin 18 _ (Or.inr rfl)
      · rw [if_neg h2, if_neg (ixN hmn (by omega)), bnd_e, if_neg (ixN (show o < 100 by omega) (by omega))]
        have e22 : zA (zsA u 17 mn (nI i)) 22 o = zA u 22 o := by rw [zA_A, if_neg (by omega)]
        rw [e22]
        have fin2 : wp (obd (fX12_inBranch_b104 N (nI mn) (zsA u 17 mn (nI i))) (fun r u => fX12_block_b18 N (m + 2) x1 r u)) Q := by
          have e46 : zI (zsI (zsA u 17 mn (nI i)) 0 37 (zI (zsA u 17 mn (nI i)) 0 37 - 1)) 0 46 = nI (o + 1) := by rw [zI_I, if_neg (by omega), zI_A]; exact h46
          unfold fX12_inBranch_b104
          rw [bnd_e, bnd_e, obd_s, e46, nI_pred]
          exact fin 17 _ (Or.inl rfl)
        by_cases h1 : zA u 22 o = 1
        · have hK2 : rK (zsA u 17 mn (nI i)) (-1) := hK
          rw [if_pos h1, isWordF (wF44 (PD_A h).1 hK2 (by decide)), obd_s, if_pos rfl]
          exact fin2
        · rw [if_neg h1]
          exact fin2
