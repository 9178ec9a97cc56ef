/-! THE REFERENCE'S READER: a NAME in an E, any part of an E -/
theorem rk_k4 {τ : zSt} {K : Int32} (h : rK τ K) (hk : zI τ 0 19 ≠ 4) : rk K = 0 ∧ K ≠ 50 ∧ K ≠ 54 ∧ K ≠ 55 ∧ K ≠ 56 := by
  obtain ⟨h1, h2⟩ := h
  have fin : ∀ c : Int32, c = K → (rk c = 0 ∧ c ≠ 50 ∧ c ≠ 54 ∧ c ≠ 55 ∧ c ≠ 56) → rk K = 0 ∧ K ≠ 50 ∧ K ≠ 54 ∧ K ≠ 55 ∧ K ≠ 56 := fun c e h => e ▸ h
  rcases h2 with q | q | q | ⟨q, ht⟩ | ⟨q, -⟩ | q
  · rw [q] at h1; exact fin 58 h1 ⟨by decide, by decide, by decide, by decide, by decide⟩
  · rw [q] at h1; exact fin 40 h1 ⟨by decide, by decide, by decide, by decide, by decide⟩
  · rw [q] at h1; exact fin 41 h1 ⟨by decide, by decide, by decide, by decide, by decide⟩
  · rw [q] at h1
    rcases ht with q | q | q | q | q | q | q <;> rw [q] at h1 <;> exact fin _ h1 ⟨by decide, by decide, by decide, by decide, by decide⟩
  · exact (hk q).elim
  · rw [q] at h1; exact fin (-1) h1 ⟨by decide, by decide, by decide, by decide, by decide⟩
theorem rK_4 {τ : zSt} {K : Int32} (h : rK τ K) (hk : zI τ 0 19 = 4) : sgOf (zL τ 0 20) = K ∧ sgOf (zL τ 0 20) ≠ -1 := by
  obtain ⟨h1, h2⟩ := h
  rw [hk] at h1 h2
  refine ⟨h1, ?_⟩
  rcases h2 with q | q | q | q | q | q
  · exact absurd q (by decide)
  · exact absurd q (by decide)
  · exact absurd q (by decide)
  · exact absurd q.1 (by decide)
  · exact q.2
  · exact absurd q (by decide)
theorem rk_ge (K : Int32) : (0 ≤ nI (rk K) - 1) ↔ 0 < rk K := by
  have fin : ∀ a : Nat, a ≤ 10 → ((0 ≤ nI a - 1) ↔ 0 < a) := by decide +kernel
  exact fin _ (rk_le K)
theorem rk_lt (K : Int32) : (nI (rk K) - 1 < 0) ↔ rk K = 0 := by
  have fin : ∀ a : Nat, a ≤ 10 → ((nI a - 1 < 0) ↔ a = 0) := by decide +kernel
  exact fin _ (rk_le K)
theorem rOps_kind {τ : zSt} {b lo : Nat} : ∀ {ops : yOps} {w l : Nat}, rOps τ b lo ops w l → ∀ i, b ≤ i → i < w → zA τ 29 i = 4 ∨ zA τ 29 i = 5 := by
  intro ops
  induction ops with
  | nil => rintro w l ⟨rfl, rfl⟩ i h1 h2; omega
  | cons o r ih =>
    rintro w l ⟨w', l', m, rfl, h, h2, rfl, h3, h4, h5, h6, h7, h7b, h8⟩ i q1 q2
    by_cases e : i = w'
    · subst e
      split at h8
      · exact Or.inl h8.1
      · exact Or.inr h8.1
    · exact ih h i q1 (by omega)
theorem fol68 {N v : Nat} {s K : Int32} {cK : Int32} {τ : zSt} (hv : v < 1299) (hK : rK τ K) (hs : zI τ 0 19 = 4 → (zL τ 0 20 = s.toInt64 ↔ K = cK)) (hc : zI τ 0 19 ≠ 4 → K ≠ cK ∧ K ≠ 55) : fX12_follows_b68 N (nI v) s τ = some (b01 (decide (0 < rk K ∨ K = cK ∨ (zA τ 29 v = 3 ∧ K = 55))), τ) := by
  unfold fX12_follows_b68 fX12_follows_b118
  by_cases hk : zI τ 0 19 = 4
  · obtain ⟨h1, h2⟩ := rK_4 hK hk
    rw [if_pos hk, levelR h2, obd_s, h1]
    by_cases hr : 0 < rk K
    · rw [if_pos ((rk_ge K).mpr hr)]
      simp [hr, b01]
    · rw [if_neg (fun q => hr ((rk_ge K).mp q))]
      by_cases he : K = cK
      · rw [if_pos ((lg_cmp_eq _ _).mpr ((hs hk).mpr he))]
        simp [he, b01]
      · rw [if_neg (fun q => he ((hs hk).mp ((lg_cmp_eq _ _).mp q))), nI_clamp (by omega), if_neg (ixN (show v < 1300 by omega) (by omega))]
        by_cases h3 : zA τ 29 v = 3
        · rw [if_pos h3]
          have h44 : zL τ 0 20 = 44 ↔ K = 55 := by
            rw [← sg55 hK.1 hK.2]
            exact ⟨fun q => ⟨hk, q⟩, fun q => q.2⟩
          by_cases h5 : K = 55
          · rw [if_pos ((lg_cmp_eq _ _).mpr (h44.mpr h5))]
            simp [h3, h5, b01]
          · rw [if_neg (fun q => h5 (h44.mp ((lg_cmp_eq _ _).mp q)))]
            simp [hr, he, h5, b01]
        · rw [if_neg h3]
          simp [hr, he, h3, b01]
  · rw [if_neg hk]
    have h1 := rk_k4 hK hk
    have h2 := hc hk
    simp [h1.1, h2.1, h2.2, b01]
theorem folR {N v lo w lw nd : Nat} {cl K : Int32} {τ : zSt} {l ops : yOps} (hS : STK τ v lo cl l ops w lw nd) (h54 : zI τ 0 54 = nI w) (hw : w ≤ 1299) (hN : 5000 ≤ N) (hK : rK τ K) : fX12_follows N τ = some (b01 (decide (0 < rk K ∨ yEnds cl K = true)), τ) := by
  have hws := STK_w hS
  obtain ⟨hop, -, -, hst, -⟩ := hS
  obtain ⟨w', rfl⟩ : ∃ g, w = g + 1 := ⟨w - 1, by omega⟩
  have key : ∀ (j f : Nat), j + v < w' + 1 → j < f → fX12_follows_b7 N f (nI (j + v)) τ = some (b01 (decide (0 < rk K ∨ yEnds cl K = true)), τ) := by
    intro j
    induction j with
    | zero =>
      intro f _ hf
      obtain ⟨f, rfl⟩ : ∃ g, f = g + 1 := ⟨f - 1, by omega⟩
      rw [Nat.zero_add, fX12_follows_b7, nI_clamp (by omega), if_neg (ixN (show v < 1300 by omega) (by omega)), if_neg (opn_5 hop).2, if_neg (ixN (show v < 1300 by omega) (by omega)), if_neg (opn_5 hop).1, if_neg (ixN (show v < 1300 by omega) (by omega))]
      have c41 : zI τ 0 19 = 4 → (zL τ 0 20 = (41 : Int32).toInt64 ↔ K = 50) := fun hk => by
        rw [← sg50 hK.1 hK.2]; exact ⟨fun q => ⟨hk, q⟩, fun q => q.2⟩
      have c59 : zI τ 0 19 = 4 → (zL τ 0 20 = (59 : Int32).toInt64 ↔ K = 56) := fun hk => by
        rw [← sg56 hK.1 hK.2]; exact ⟨fun q => ⟨hk, q⟩, fun q => q.2⟩
      have c93 : zI τ 0 19 = 4 → (zL τ 0 20 = (93 : Int32).toInt64 ↔ K = 54) := fun hk => by
        rw [← sg54 hK.1 hK.2]; exact ⟨fun q => ⟨hk, q⟩, fun q => q.2⟩
      have n50 : zI τ 0 19 ≠ 4 → K ≠ 50 ∧ K ≠ 55 := fun hk => ⟨(rk_k4 hK hk).2.1, (rk_k4 hK hk).2.2.2.1⟩
      have n54 : zI τ 0 19 ≠ 4 → K ≠ 54 ∧ K ≠ 55 := fun hk => ⟨(rk_k4 hK hk).2.2.1, (rk_k4 hK hk).2.2.2.1⟩
      have n56 : zI τ 0 19 ≠ 4 → K ≠ 56 ∧ K ≠ 55 := fun hk => ⟨(rk_k4 hK hk).2.2.2.2, (rk_k4 hK hk).2.2.2.1⟩
      rcases hop with ⟨-, h29, hcl⟩ | ⟨h29, rfl⟩ | ⟨h29, rfl, -⟩ | ⟨h29, rfl, -⟩
      · rw [if_pos h29, if_neg (ixN (show v < 1300 by omega) (by omega))]
        rcases hcl with ⟨rfl, h31⟩ | ⟨rfl, h31⟩ | ⟨rfl, h31⟩
        · rw [h31, fol68 (by omega) hK c59 n56, h29]
          simp [yEnds]
        · rw [h31, fol68 (by omega) hK c41 n50, h29]
          simp [yEnds]
        · rw [h31, fol68 (by omega) hK c93 n54, h29]
          simp [yEnds]
      · rw [if_neg (by rw [h29]; decide), if_neg (ixN (show v < 1300 by omega) (by omega)), if_neg (by rw [h29]; decide), fol68 (by omega) hK c41 n50, h29]
        simp [yEnds]
      · rw [if_neg (by rw [h29]; decide), if_neg (ixN (show v < 1300 by omega) (by omega)), if_pos h29, fol68 (by omega) hK c93 n54, h29]
        simp [yEnds]
      · rw [if_neg (by rw [h29]; decide), if_neg (ixN (show v < 1300 by omega) (by omega)), if_neg (by rw [h29]; decide), fol68 (by omega) hK c41 n50, h29]
        have : (0 < rk K ∨ K = 50 ∨ ((3 : Int32) = 3 ∧ K = 55)) ↔ (0 < rk K ∨ yEnds 55 K = true) := by
          unfold yEnds
          rw [decide_eq_true_eq]
          constructor
          · rintro (q | q | q)
            · exact Or.inl q
            · exact Or.inr (Or.inr ⟨rfl, q⟩)
            · exact Or.inr (Or.inl q.2)
          · rintro (q | q | q)
            · exact Or.inl q
            · exact Or.inr (Or.inr ⟨rfl, q⟩)
            · exact Or.inr (Or.inl q.2)
        rw [decide_eq_decide.mpr this]
    | succ j ih =>
      intro f hj hf
      obtain ⟨f, rfl⟩ : ∃ g, f = g + 1 := ⟨f - 1, by omega⟩
      have hkk := rOps_kind hst (j + 1 + v) (by omega) (by omega)
      have hst2 : fX12_follows_b27 N (fX12_follows_b7 N f) (nI (j + 1 + v)) τ = some (b01 (decide (0 < rk K ∨ yEnds cl K = true)), τ) := by
        unfold fX12_follows_b27
        rw [bnd_e, ← Int32.sub_eq_add_neg, show j + 1 + v = (j + v) + 1 by omega, nI_pred]
        exact ih f (by omega) (by omega)
      rw [fX12_follows_b7, nI_clamp (by omega), if_neg (ixN (show j + 1 + v < 1300 by omega) (by omega))]
      rcases hkk with q | q
      · rw [if_pos q]; exact hst2
      · rw [if_neg (by rw [q]; decide), if_neg (ixN (show j + 1 + v < 1300 by omega) (by omega)), if_pos q]; exact hst2
  unfold fX12_follows
  rw [bnd_e, h54, nI_pred]
  have := key (w' - v) N (by omega) (by omega)
  rw [show w' - v + v = w' by omega] at this
  exact this
theorem part40 {N : Nat} {τ : zSt} (h21 : zI τ 0 21 = 0) (hK : rK τ 40) : fX12_part N τ = obd (fX12_nameIn N τ) (fun r u => some (r, u)) := by
  unfold fX12_part
  rw [bnd_e, isSignF (sF22 h21 hK (by decide)), obd_s, if_pos rfl, isSignF (sF25 h21 hK (by decide)), obd_s, if_pos rfl, isSignF (sF26 h21 hK (by decide)), obd_s, if_pos rfl, if_neg (fun q => absurd ((kd41 hK.1 hK.2).mp q) (by decide)), isWordF (wF48 h21 hK (by decide)), obd_s, if_pos rfl, isSignF (sF49 h21 hK (by decide)), obd_s, if_pos rfl, if_pos ((kd40 hK.1 hK.2).mpr rfl)]
theorem nI_ixge {j : Nat} (h : j < 2 ^ 31) : 0 ≤ nI j := nI_pos' h
def lxI (q : Nat ⊕ Nat) : Int32 := match q with
  | .inl j => nI j
  | .inr _ => -1
/-- a NAME in an E: what comes of it as the token behind it has been come to -/
theorem nameB {G : gE} {L : lE} {N : Nat} {q : Nat ⊕ Nat} {p : Nat} {gi : Int32} {τ : zSt} {s : Int32} (hs : s = kdOf G q) (hl : (∃ j, q = .inl j ∧ j < L.2.2) ∨ (∃ g, q = .inr g ∧ g < G.2.2.2.2)) (hgi : ∀ g, q = .inr g → gi = nI g) {K : Int32} (h21 : zI τ 0 21 = 0) (hK : rK τ K) : fX12_nameIn_b71 N (nI p) (lxI q) gi s τ =
    if K = 53 then (if kdOf G q = 1 then obd (fX12_itemOf N gi τ) (fun r u => some (r, u)) else obd (fX12_fails N 5 (nI p) τ) (fun _ u => some (-1, u)))
    else if K = 49 then (if kdOf G q = 2 then obd (fX12_call N (nI p) gi τ) (fun r u => some (r, u)) else obd (fX12_fails N 5 (nI p) τ) (fun _ u => some (-1, u)))
    else obd (fX12_follows N τ) (fun r u => if r = 0 then obd (fX12_stray N u) (fun _ u => some (-1, u)) else if kdOf G q = 0 then (if lxI q < 0 then fX12_nameIn_b174 N (lxI q) gi 2 u else fX12_nameIn_b174 N (lxI q) gi 3 u) else obd (fX12_fails N 5 (nI p) u) (fun _ u => some (-1, u))) := by
  unfold fX12_nameIn_b71
  subst hs
  by_cases h53 : K = 53
  · rw [if_pos h53, isSignT ((sB53 h21 hK).mpr h53), obd_s, if_neg (by decide)]
    unfold fX12_nameIn_b95 fX12_nameIn_b107
    rw [if_neg (show ¬ (1 : Int32) = 0 by decide), if_neg (show ¬ (1 : Int32) = 0 by decide)]
  · rw [if_neg h53, isSignF (sF53 h21 hK h53), obd_s, if_pos rfl]
    by_cases h49 : K = 49
    · rw [if_pos h49, isSignT ((sB49 h21 hK).mpr h49), obd_s, if_neg (by decide)]
      unfold fX12_nameIn_b95 fX12_nameIn_b107
      rw [if_pos (show (0 : Int32) = 0 from rfl), if_pos (show (0 : Int32) = 0 from rfl)]
    · rw [if_neg h49, isSignF (sF49 h21 hK h49), obd_s, if_pos rfl]
theorem obd_obd {α : Type} {a : Option (α × zSt)} {β : Type} {f : α → zSt → Option (β × zSt)} : obd (obd a (fun r u => some (r, u))) f = obd a f := by
  cases a with
  | none => rfl
  | some q => rfl
theorem opName {x : Nat → Int32} {n tc : Nat} {G : gE} {L : lE} {N : Nat} {R : yRec} {tk : yTok} {c ns nd w v lo lw m : Nat} {cl : Int32} {l ops : yOps} {τ : zSt} {Q : Int32 → zSt → Prop} (hn : n ≤ 512) (hN : 5000 ≤ N) (hG : G.2.2.2.2 ≤ 1400) (hLn : L.2.2 ≤ 1400) (hR : LVp x n tc G L N R) (hW : rW R) (hV : RV x n tc G L tk c ns nd w τ) (hB : BD n tc tk c ns nd w) (hS : STK τ v lo cl l ops w lw nd) (hl : l.length ≤ ns) (hm : n + 5 ≤ m + tk.2.1) (hk : tk.2.2.1 = 40) (h0 : yOper x n tc R G L ns tk c ≠ .error 0)
    (hok : OK1 x n tc G L N tk ns nd w τ Q (yOper x n tc R G L ns tk c))
    (hbad : ∀ t tk' c' mis e r u, yOper x n tc R G L ns tk c = .ok (t, tk', c', mis) → ((yEnds cl tk'.2.2.1 = false ∧ rk tk'.2.2.1 = 0 ∧ e = 2 + 16 * nI tk'.2.1) ∨ (¬ (yEnds cl tk'.2.2.1 = false ∧ rk tk'.2.2.1 = 0) ∧ ∃ p, mis = some p ∧ e = 5 + 16 * nI p)) → e ≠ 0 → FO x n e v cl τ u → Q r u)
    (her : ER1 x n v cl τ Q (yOper x n tc R G L ns tk c)) : wp (fX12_works_b2 N m (-1) τ) Q := by
  have hD := RV_D hV hB hn
  have hBl := BD_le hB hn
  obtain ⟨b1, b2, b3, b4, b5, b6⟩ := hB
  have hlt := tk_ne b1 hk (by decide)
  have hw := STK_w hS
  have hK := rT_K hV.2.1
  rw [hk] at hK
  obtain ⟨m, rfl⟩ : ∃ g, m = g + 1 := ⟨m - 1, by omega⟩
  obtain ⟨w', rfl⟩ : ∃ g, w = g + 1 := ⟨w - 1, by omega⟩
  have hyo : yOper x n tc R G L ns tk c = yNamed x n tc R G L ns tk c := by
    unfold yOper
    rw [if_neg (by rw [hk]; decide), if_pos hk]
  rw [hyo] at hok her h0 hbad
  unfold yNamed at hok her h0 hbad
  rw [wkN hV.2.2.1 hV.2.2.2.2.2.2 (by omega), part40 hV.2.2.1 hK, obd_obd]
  unfold fX12_nameIn
  rw [bnd_e, hV.2.1.2.1, hV.2.1.2.2.1, localOfR hV.1 hLn (by omega), obd_s, hV.2.1.2.2.1, namedR hV.1 hG (by omega), obd_s]
  cases hlk : look G L tk.2.2.2 with
  | none =>
    rw [hlk] at her
    have hl1 : lkN L.1 tk.2.2.2 L.2.2 = none := by
      unfold look at hlk
      split at hlk
      · cases hlk
      · assumption
    have hl2 : lkN G.1 tk.2.2.2 G.2.2.2.2 = none := by
      unfold look at hlk
      rw [hl1] at hlk
      cases hh : lkN G.1 tk.2.2.2 G.2.2.2.2 with
      | none => rfl
      | some g => rw [hh] at hlk; cases hlk
    rw [hl1, hl2]
    have he0 : (3 : Int32) + 16 * nI tk.2.1 ≠ 0 := er_ne erK3 (by omega)
    rw [if_neg (by decide), if_neg (by decide), failsR, flS_eq hV.2.2.1, obd_s, obd_s]
    exact deadV (FX_mk hD) (by omega) he0 (by omega) (fun r z => her _ r z rfl he0)
  | some q =>
    rw [hlk] at her hok h0 hbad
    have hq := look_ok hlk
    -- the two look-ups
    obtain ⟨gi, hgi, hlook⟩ : ∃ gi : Int32, (∀ g, q = .inr g → gi = nI g) ∧ (if 0 ≤ ixI (lkN L.1 tk.2.2.2 L.2.2) then fX12_nameIn_b39 N (nI tk.2.1) (ixI (lkN L.1 tk.2.2.2 L.2.2)) (ixI (lkN G.1 tk.2.2.2 G.2.2.2.2)) τ
        else if 0 ≤ ixI (lkN G.1 tk.2.2.2 G.2.2.2.2) then fX12_nameIn_b39 N (nI tk.2.1) (ixI (lkN L.1 tk.2.2.2 L.2.2)) (ixI (lkN G.1 tk.2.2.2 G.2.2.2.2)) τ
        else obd (fX12_fails N 3 (nI tk.2.1) τ) (fun _ u => some (-1, u))) = fX12_nameIn_b39 N (nI tk.2.1) (lxI q) gi τ := by
      unfold look at hlk
      cases h1 : lkN L.1 tk.2.2.2 L.2.2 with
      | some j =>
        rw [h1] at hlk
        cases hlk
        refine ⟨ixI (lkN G.1 tk.2.2.2 G.2.2.2.2), fun g hg => (by cases hg), ?_⟩
        have hj := (lkN_lt h1).1
        rw [if_pos (show 0 ≤ ixI (some j) from nI_pos' (by omega))]
        rfl
      | none =>
        rw [h1] at hlk
        cases h2 : lkN G.1 tk.2.2.2 G.2.2.2.2 with
        | none => rw [h2] at hlk; cases hlk
        | some g =>
          rw [h2] at hlk
          cases hlk
          refine ⟨nI g, fun g' hg => (by cases hg; rfl), ?_⟩
          have hg := (lkN_lt h2).1
          rw [if_neg (show ¬ 0 ≤ ixI none by decide), if_pos (show 0 ≤ ixI (some g) from nI_pos' (by omega))]
          rfl
    rw [hlook]
    unfold fX12_nameIn_b39
    cases hfo : fo tc c tk.2.1 with
    | error e =>
      simp only [hfo, xb_e] at her
      have he0 : e ≠ 0 := fo_ne hfo (by omega)
      have hfx : FXb x n 1100 e τ (zsI (zsI τ 0 21 e) 0 36 (nI (c + 4))) := FX_I (FX_mk hD) (by omega)
      rw [fourE hfo hV.2.2.1 hV.2.2.2.1 hV.1.2.1 (by omega), obd_s, isWellF (by rw [hfx.1]; exact he0), obd_s, if_pos rfl, obd_s]
      exact deadV hfx (by omega) he0 (by omega) (fun r z => her e r z rfl he0)
    | ok c1 =>
      simp only [hfo, xb_k] at her hok h0 hbad
      obtain ⟨hc1, hc2⟩ := fo_kk hfo
      have hE1 : fE nd (w' + 1) τ (zsI τ 0 36 (nI c1)) := fE_I fE_refl (by omega)
      have hV1 : RV x n tc G L tk c1 ns nd (w' + 1) (zsI τ 0 36 (nI c1)) := RV_36 hV
      rw [fourT hfo hV.2.2.2.1 hV.1.2.1 b3, obd_s]
      revert hE1 hV1
      generalize zsI τ 0 36 (nI c1) = s1
      intro hE1 hV1
      rw [isWellT hV1.2.2.1, obd_s, if_neg (by decide), nextV hV1 b1.2.1 (by omega), obd_s]
      -- the sort
      have hsort : (if lxI q < 0 then (if gi < 0 ∨ 1400 ≤ gi.toNatClampNeg then none else fX12_nameIn_b71 N (nI tk.2.1) (lxI q) gi (zA (nxS x n tk.1 s1) 8 gi.toNatClampNeg) (nxS x n tk.1 s1)) else fX12_nameIn_b71 N (nI tk.2.1) (lxI q) gi 0 (nxS x n tk.1 s1)) = fX12_nameIn_b71 N (nI tk.2.1) (lxI q) gi (kdOf G q) (nxS x n tk.1 s1) := by
        rcases hq with ⟨j, rfl, hj⟩ | ⟨g, rfl, hg⟩
        · rw [if_neg (show ¬ lxI (.inl j) < 0 from nI_pos (by omega))]; rfl
        · rw [if_pos (show lxI (.inr g) < 0 from (by decide : (-1 : Int32) < 0)), hgi g rfl, nI_clamp (by omega), if_neg (ixN (show g < 1400 by omega) (by omega)), nxS_A, (hV1.1.2.2.2.1 g hg).2.1]; rfl
      rw [hsort]
      cases hcm : cm x n tk with
      | error e =>
        simp only [hcm, xb_e] at her
        have he0 := cm_ne hn hcm b1.2.1
        have hpd := PD_nx (τ := s1) hcm hV1.2.2.1
        have hD2 := rD_nx (p := tk.1) (RV_rD hV1 b1.2.1 (by omega)) b1.2.1
        have hE2 : fE nd (w' + 1) τ (nxS x n tk.1 s1) := nxS_E hE1
        have hS2 := STK_fE (nd' := nd) hS hE2 (Nat.le_refl _)
        have h54 : zI (nxS x n tk.1 s1) 0 54 = nI (w' + 1) := (nxS_I (by omega)).trans hV1.2.2.2.2.2.2
        have hcl : cl ≠ -1 := by
          rcases hS.1 with ⟨-, -, ⟨rfl, -⟩ | ⟨rfl, -⟩ | ⟨rfl, -⟩⟩ | ⟨-, rfl⟩ | ⟨-, rfl, -⟩ | ⟨-, rfl, -⟩ <;> decide
        revert hpd hD2 hE2 hS2 h54
        generalize nxS x n tk.1 s1 = s2
        intro hpd hD2 hE2 hS2 h54
        rw [nameB rfl hq hgi hpd.1 (PD_K hpd), if_neg (by decide), if_neg (by decide), folR hS2 h54 (by omega) hN (PD_K hpd), obd_s]
        have hz : b01 (decide (0 < rk (-1) ∨ yEnds cl (-1) = true)) = 0 := by
          have : ¬ (0 < rk (-1) ∨ yEnds cl (-1) = true) := by
            rintro (q | q)
            · exact absurd q (by decide)
            · unfold yEnds at q
              rw [decide_eq_true_eq] at q
              rcases q with q | q
              · exact hcl q.symm
              · exact absurd q.2 (by decide)
          simp [this, b01]
        rw [hz, if_pos rfl, strayR, stS_eq hpd.1, stE_P hpd, obd_s, obd_s]
        exact deadV (FX_tr (FX_mk hD2) (fE_P hE2)) (by omega) he0 (by omega) (fun r z => her e r z rfl he0)
      | ok t1 =>
        simp only [hcm, xb_k] at her hok h0 hbad
        have ht1 := sat_get (cm_ok (x := x) (n := n) (t := tk) (by omega) b1.2.1) hcm
        have hh1 := ht1.2
        have hq1 := ht1.1.1
        have hq2 := ht1.1.2.1
        have hV2 := RV_n hcm hV1
        have hE2 : fE nd (w' + 1) τ (nxS x n tk.1 s1) := nxS_E hE1
        have hS2 := STK_fE (nd' := nd) hS hE2 (Nat.le_refl _)
        revert hV2 hE2 hS2
        generalize nxS x n tk.1 s1 = s2
        intro hV2 hE2 hS2
        have hK2 := rT_K hV2.2.1
        have hB2 : BD n tc t1 c1 ns nd (w' + 1) := ⟨ht1.1, by omega, b3, b4, by omega, by omega⟩
        have hD2 := RV_rD hV2 hq2 (by omega)
        rw [nameB rfl hq hgi hV2.2.2.1 hK2]
        have htr : ∀ e z, FO x n e v cl s2 z → FO x n e v cl τ z := fun e z hz => FO_tr hz (fE_P hE2) (hE2.2.1 29 v (by omega) (by omega))
        by_cases h53 : t1.2.2.1 = 53
        · rw [if_pos h53]
          simp only [if_neg (show ¬ t1.2.2.1 = 49 by rw [h53]; decide), if_pos h53] at her hok h0
          by_cases hkd : kdOf G q = 1
          · rw [if_pos hkd]
            rcases hq with ⟨j, rfl, hj⟩ | ⟨g, rfl, hg⟩
            · exact absurd hkd (by show ¬ (0 : Int32) = 1; decide)
            · rw [hgi g rfl, obd_obd]
              refine itemR (p := tk.2.1) hn hN hR hV2 hB2 hS2 hl (by omega) h53 hg hG hkd (fun q => h0 (by rw [q]; rfl)) ?_ ?_
              · intro t tk' c' i nd' m' u hres hVu hBu hEu hndu hrep h21i hi hpl hm'
                rw [hres, xb_k] at hok
                exact hok _ tk' c' i nd' m' u rfl hVu hBu (fE_trans hE2 hEu (Nat.le_refl _) (Nat.le_refl _)) hndu hrep h21i hi (by omega) hm'
              · intro e r u hres he0 hfo2
                rw [hres, xb_e] at her
                exact her e r u rfl he0 (htr e u hfo2)
          · have hye : yIndex x n R G q tk.2.1 ns t1 c1 = .error (5 + 16 * nI tk.2.1) := by unfold yIndex; rw [if_neg hkd]; rfl
            have he0 : (5 : Int32) + 16 * nI tk.2.1 ≠ 0 := er_ne erK5 (by omega)
            rw [hye, xb_e] at her
            rw [if_neg hkd, failsR, flS_eq hV2.2.2.1, obd_s, obd_s]
            exact deadV (FX_tr (FX_mk hD2) (fE_P hE2)) (by omega) he0 (by omega) (fun r z => her _ r z rfl he0)
        · rw [if_neg h53]
          by_cases h49 : t1.2.2.1 = 49
          · rw [if_pos h49]
            simp only [if_pos h49] at her hok h0
            by_cases hkd : kdOf G q = 2
            · rw [if_pos hkd]
              rcases hq with ⟨j, rfl, hj⟩ | ⟨g, rfl, hg⟩
              · exact absurd hkd (by show ¬ (0 : Int32) = 2; decide)
              · rw [hgi g rfl, obd_obd]
                rw [yCall_Q hkd] at her hok h0
                refine callR (m := m) hn hN hR hW (fun u => rfl) (fun d u _ _ q => q) hV2 hB2 (by omega) h49 hg hG (by omega) (fun q => h0 (by rw [q]; rfl)) ?_ ?_
                · intro t tk' c' i nd' m' u hres hVu hBu hEu hndu hrep h21i hi h50 hpl hm'
                  rw [hres, xb_k] at hok her
                  have hBl' := BD_le hBu hn
                  obtain ⟨d1, d2, d3, d4, d5, d6⟩ := hBu
                  have hlt' := tk_ne d1 h50 (by decide)
                  have hEz := fE_trans hE2 hEu (Nat.le_refl _) (Nat.le_refl _)
                  cases hcm2 : cm x n tk' with
                  | error e =>
                    rw [hcm2] at her
                    exact penV hn hN (STK_fE (nd' := nd') hS hEz hndu) hVu hcm2 (by omega) hl (by omega) hBl'.2.2.2 hi (fE_P hEz) (hEz.2.1 29 v (by omega) (by omega)) (by omega) (fun r z hz => her e r z rfl (cm_ne hn hcm2 hBl'.2.2.2) hz)
                  | ok t4 =>
                    rw [hcm2] at hok
                    have ht4 := sat_get (cm_ok (x := x) (n := n) (t := tk') (by omega) hBl'.2.2.2) hcm2
                    have hh4 := ht4.2
                    refine hok _ t4 c' i nd' m' _ rfl (RV_n hcm2 hVu) ⟨ht4.1, d2, b3, b4, by omega, by omega⟩ (nxS_E hEz) hndu ?_ (nxS_A.trans h21i) hi (by omega) (by omega)
                    exact rep_frame _ _ _ _ (fun j hj => ⟨hj, fun a _ _ => nxS_A⟩) hrep
                · intro e r u hres he0 hfx
                  rw [hres] at her
                  exact her e r u rfl he0 (htr e u (Or.inl hfx))
            · have hye : yCall x n R G q tk.2.1 ns t1 c1 = .error (5 + 16 * nI tk.2.1) := by unfold yCall; rw [if_neg hkd]; rfl
              have he0 : (5 : Int32) + 16 * nI tk.2.1 ≠ 0 := er_ne erK5 (by omega)
              rw [hye, xb_e] at her
              rw [if_neg hkd, failsR, flS_eq hV2.2.2.1, obd_s, obd_s]
              exact deadV (FX_tr (FX_mk hD2) (fE_P hE2)) (by omega) he0 (by omega) (fun r z => her _ r z rfl he0)
          · rw [if_neg h49, folR hS2 hV2.2.2.2.2.2.2 (by omega) hN hK2, obd_s]
            simp only [if_neg h49, if_neg h53] at hok hbad
            by_cases hfol : 0 < rk t1.2.2.1 ∨ yEnds cl t1.2.2.1 = true
            · rw [show b01 (decide (0 < rk t1.2.2.1 ∨ yEnds cl t1.2.2.1 = true)) = 1 by simp [hfol, b01], if_neg (by decide)]
              by_cases hkd : kdOf G q = 0
              · rw [if_pos hkd]
                rw [if_pos hkd] at hok
                -- a variable
                have hvar : ∃ (s3 : zSt), (if lxI q < 0 then fX12_nameIn_b174 N (lxI q) gi 2 s2 else fX12_nameIn_b174 N (lxI q) gi 3 s2) = some (nI nd, s3) ∧ RV x n tc G L t1 c1 ns (nd + 1) (w' + 1) s3 ∧ fE nd (w' + 1) s2 s3 ∧ rep s3 (vrN G L q) nd (nd + 1) (nI nd) ∧ zA s3 21 nd = -1 := by
                  rcases hq with ⟨j, rfl, hj⟩ | ⟨g, rfl, hg⟩
                  · have hloc := hV2.1.2.2.2.2.2 j hj
                    refine ⟨zsA (ndS s2 3 nd) 19 nd (L.2.1 j), ?_, RV_A (RV_nd hV2) (by omega), fE_A (ndS_E fE_refl (Nat.le_refl _)) (by omega), ?_, ?_⟩
                    · rw [if_neg (show ¬ lxI (.inl j) < 0 from nI_pos (by omega))]
                      unfold fX12_nameIn_b174 fX12_nameIn_b204
                      rw [nodeR hV2.2.2.2.2.2.1 (by omega), obd_s, if_neg (show ¬ lxI (.inl j) < 0 from nI_pos (by omega))]
                      show (if nI j < 0 ∨ 1400 ≤ (nI j).toNatClampNeg then none else _) = _
                      rw [nI_clamp (show j < 2 ^ 31 by omega), if_neg (ixN (show j < 1400 by omega) (by omega)), nI_clamp (show nd < 2 ^ 31 by omega), if_neg (ixN (show nd < 4200 by omega) (by omega)), bnd_e]
                      show some (nI nd, zsA (ndS s2 3 nd) 19 nd (zA (ndS s2 3 nd) 14 (nI j).toNatClampNeg)) = _
                      rw [nI_clamp (show j < 2 ^ 31 by omega), ndS_A (by omega), hloc.2]
                    · show rep _ (fN 3 (L.2.1 j).toInt 0 fZ fZ fZ) _ _ _
                      refine rep_0 rfl (by decide) (by omega) ?_ ?_ ?_ ?_ ?_ ?_
                      · rw [zA_A, if_neg (by omega), nd15]; rfl
                      · rw [zA_A, if_pos ⟨rfl, rfl⟩, Int32.ofInt_toInt]
                      · rw [zA_A, if_neg (by omega), nd20]; rfl
                      · rw [zA_A, if_neg (by omega), nd16]
                      · rw [zA_A, if_neg (by omega), nd17]
                      · rw [zA_A, if_neg (by omega), nd18]
                    · rw [zA_A, if_neg (by omega), nd21]
                  · have hloc := hV2.1.2.2.2.1 g hg
                    refine ⟨zsA (ndS s2 2 nd) 19 nd (G.2.2.1 g), ?_, RV_A (RV_nd hV2) (by omega), fE_A (ndS_E fE_refl (Nat.le_refl _)) (by omega), ?_, ?_⟩
                    · rw [if_pos (show lxI (.inr g) < 0 from (by decide : (-1 : Int32) < 0))]
                      unfold fX12_nameIn_b174 fX12_nameIn_b204
                      rw [nodeR hV2.2.2.2.2.2.1 (by omega), obd_s, if_pos (show lxI (.inr g) < 0 from (by decide : (-1 : Int32) < 0)), hgi g rfl]
                      rw [nI_clamp (show g < 2 ^ 31 by omega), if_neg (ixN (show g < 1400 by omega) (by omega)), nI_clamp (show nd < 2 ^ 31 by omega), if_neg (ixN (show nd < 4200 by omega) (by omega)), bnd_e, ndS_A (by omega), hloc.2.2.2 (by rw [show G.2.1 g = 0 from hkd]; decide)]
                    · show rep _ (fN 2 (G.2.2.1 g).toInt 0 fZ fZ fZ) _ _ _
                      refine rep_0 rfl (by decide) (by omega) ?_ ?_ ?_ ?_ ?_ ?_
                      · rw [zA_A, if_neg (by omega), nd15]; rfl
                      · rw [zA_A, if_pos ⟨rfl, rfl⟩, Int32.ofInt_toInt]
                      · rw [zA_A, if_neg (by omega), nd20]; rfl
                      · rw [zA_A, if_neg (by omega), nd16]
                      · rw [zA_A, if_neg (by omega), nd17]
                      · rw [zA_A, if_neg (by omega), nd18]
                    · rw [zA_A, if_neg (by omega), nd21]
                obtain ⟨s3, e3, v3, f3, r3, a3⟩ := hvar
                rw [e3, obd_s]
                exact hok _ t1 c1 nd (nd + 1) m s3 rfl v3 ⟨ht1.1, by omega, b3, b4, by omega, by omega⟩ (fE_trans hE2 f3 (Nat.le_refl _) (Nat.le_refl _)) (by omega) r3 a3 (by omega) (by omega) (by omega)
              · rw [if_neg hkd, failsR, flS_eq hV2.2.2.1, obd_s, obd_s]
                rw [if_neg hkd] at hbad
                have he0 : (5 : Int32) + 16 * nI tk.2.1 ≠ 0 := er_ne erK5 (by omega)
                refine deadV (FX_tr (FX_mk hD2) (fE_P hE2)) (by omega) he0 (by omega) (fun r z hz => hbad _ _ _ _ _ r z rfl (Or.inr ⟨?_, tk.2.1, rfl, rfl⟩) he0 hz)
                rintro ⟨q1, q2⟩
                rcases hfol with q | q
                · omega
                · rw [q1] at q; cases q
            · rw [show b01 (decide (0 < rk t1.2.2.1 ∨ yEnds cl t1.2.2.1 = true)) = 0 by simp [hfol, b01], if_pos rfl, strayR, stS_eq hV2.2.2.1, stE_T hV2.2.1 ht1.1.2.2.2, obd_s, obd_s]
              have he0 : (2 : Int32) + 16 * nI t1.2.1 ≠ 0 := er_ne erK2 (by omega)
              refine deadV (FX_tr (FX_mk hD2) (fE_P hE2)) (by omega) he0 (by omega) (fun r z hz => hbad _ _ _ _ _ r z rfl (Or.inl ⟨?_, ?_, rfl⟩) he0 hz)
              · rw [Bool.eq_false_iff]; exact fun q => hfol (Or.inr q)
              · have : ¬ 0 < rk t1.2.2.1 := fun q => hfol (Or.inl q)
                omega
