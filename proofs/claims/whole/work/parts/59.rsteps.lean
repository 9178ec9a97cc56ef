/-! THE REFERENCE'S READER: small steps, well and behind what is wrong -/
def FXb (x : Nat → Int32) (n b : Nat) (e : Int32) (τ u : zSt) : Prop := zI u 0 21 = e ∧ rD x n b u ∧ fP τ u
theorem FX_le {x : Nat → Int32} {n b : Nat} {e : Int32} {τ u : zSt} (h : FXb x n b e τ u) (hb : b ≤ 1200) : FX x n e τ u := by
  obtain ⟨h1, ⟨h2, h3, d, h4, h5⟩, h6⟩ := h
  exact ⟨h1, ⟨h2, h3, d, by omega, h5⟩, h6⟩
theorem FX_I {x : Nat → Int32} {n b : Nat} {e : Int32} {τ u : zSt} {k : Nat} {v : Int32} (h : FXb x n b e τ u) (hk : 18 ≤ k ∧ k < 60 ∧ k ≠ 21 ∧ k ≠ 38 ∧ k ≠ 22) : FXb x n b e τ (zsI u 0 k v) := by
  obtain ⟨h1, ⟨h2, ⟨p, h3, h3b⟩, d, h4, h5⟩, h6⟩ := h
  refine ⟨?_, ⟨srcR_I h2 _ _ (by omega), ⟨p, h3, ?_⟩, d, h4, ?_⟩, fP_I h6 (by omega)⟩
  · rw [zI_I, if_neg (by omega)]; exact h1
  · rw [zI_I, if_neg (by omega)]; exact h3b
  · rw [zI_I, if_neg (by omega)]; exact h5
theorem FX_A {x : Nat → Int32} {n b : Nat} {e : Int32} {τ u : zSt} {a i : Nat} {v : Int32} (h : FXb x n b e τ u) (hk : 7 ≤ a ∧ a ≤ 33) : FXb x n b e τ (zsA u a i v) := by
  obtain ⟨h1, ⟨h2, h3, h4⟩, h6⟩ := h
  exact ⟨h1, ⟨srcR_fP h2 (fP_A fP_refl hk), h3, h4⟩, fP_A h6 hk⟩
theorem FX_B {x : Nat → Int32} {n b : Nat} {e : Int32} {τ u : zSt} {a i : Nat} {v : Int64} (h : FXb x n b e τ u) : FXb x n b e τ (zsB u a i v) := h
theorem FX_nx {x : Nat → Int32} {n b p : Nat} {e : Int32} {τ u : zSt} (h : FXb x n b e τ u) (hp : p ≤ n) : FXb x n b e τ (nxS x n p u) := by
  obtain ⟨h1, ⟨h2, -, d, h4, h5⟩, h6⟩ := h
  have hy := yAt_ok x n p hp
  exact ⟨(nxS_I (by omega)).trans h1, ⟨srcR_fE (lo := 0) (w0 := 0) h2 (nxS_E fE_refl), ⟨(yAt x n p).1, hy.2.2.1, rT_nx.1⟩, d, h4, (nxS_I (by omega)).trans h5⟩, nxS_P h6⟩
theorem FX_nd {x : Nat → Int32} {n b d : Nat} {e k : Int32} {τ u : zSt} (h : FXb x n b e τ u) (hd : d < b) : FXb x n b e τ (ndS u k d) := by
  obtain ⟨h1, ⟨h2, ⟨p, h3, h3b⟩, -⟩, h6⟩ := h
  exact ⟨(ndS_I (by omega)).trans h1, ⟨srcR_fP h2 (ndS_P fP_refl), ⟨p, h3, (ndS_I (by omega)).trans h3b⟩, d + 1, hd, ndS_38⟩, ndS_P h6⟩
theorem FX_mk {x : Nat → Int32} {n b : Nat} {e : Int32} {τ : zSt} (h : rD x n b τ) : FXb x n b e τ (zsI τ 0 21 e) := by
  obtain ⟨h2, ⟨p, h3, h3b⟩, d, h4, h5⟩ := h
  refine ⟨?_, ⟨srcR_I h2 _ _ (by omega), ⟨p, h3, ?_⟩, d, h4, ?_⟩, fP_I fP_refl (by omega)⟩
  · rw [zI_I, if_pos ⟨rfl, rfl⟩]
  · rw [zI_I, if_neg (by omega)]; exact h3b
  · rw [zI_I, if_neg (by omega)]; exact h5
theorem FX_tr {x : Nat → Int32} {n b : Nat} {e : Int32} {τ u z : zSt} (h : FXb x n b e u z) (hp : fP τ u) : FXb x n b e τ z := ⟨h.1, h.2.1, fP_trans hp h.2.2⟩
/-! behind what is wrong -/
theorem strayD {N : Nat} {τ : zSt} (h : zI τ 0 21 ≠ 0) : fX12_stray N τ = some ((), τ) := by rw [strayR, stS_d h]
theorem failsD {N : Nat} {k p : Int32} {τ : zSt} (h : zI τ 0 21 ≠ 0) : fX12_fails N k p τ = some ((), τ) := by rw [failsR, flS_d h]
theorem fourD {N : Nat} {p : Int32} {τ : zSt} (h : zI τ 0 21 ≠ 0) : fX12_four N p τ = some ((), zsI τ 0 36 (zI τ 0 36 + 4)) := by
  rw [fourR]; unfold foS; rw [flS_d h]; simp
theorem nestsD {N : Nat} {τ : zSt} (h : zI τ 0 21 ≠ 0) : fX12_nests N τ = some ((), zsI τ 0 37 (zI τ 0 37 + 1)) := by
  rw [nestsR]; unfold neS; rw [flS_d h]; simp
theorem takesD {N : Nat} {s : Int32} {τ : zSt} (h : zI τ 0 21 ≠ 0) : fX12_takes N s τ = some ((), τ) := by rw [takesF (sgB_d h), stS_d h]
theorem opensD {N : Nat} {s : Int32} {τ : zSt} (h : zI τ 0 21 ≠ 0) : fX12_opens N s τ = some ((), τ) := by
  unfold fX12_opens
  rw [isSignF (sgB_d h), obd_s, if_pos rfl, strayD h, obd_s]
theorem closesD {N : Nat} {s : Int32} {τ : zSt} (h : zI τ 0 21 ≠ 0) : fX12_closes N s τ = some ((), zsI τ 0 37 (zI τ 0 37 - 1)) := by
  rw [closesF (sgB_d h), stS_d h]
/-! well -/
theorem fo_kk {tc c p c1 : Nat} (h : fo tc c p = .ok c1) : c1 = c + 4 ∧ c + 4 ≤ tc := by
  unfold fo er at h
  split at h
  · cases h
  · cases h; exact ⟨rfl, by omega⟩
theorem fo_ee {tc c p : Nat} {e : Int32} (h : fo tc c p = .error e) : e = 9 + 16 * nI p ∧ tc < c + 4 := by
  unfold fo er at h
  split at h
  · cases h; exact ⟨rfl, by assumption⟩
  · cases h
theorem ne_kk {ns p : Nat} {y : Unit} (h : ne ns p = .ok y) : ns ≠ 40 := by
  unfold ne er at h
  split at h
  · cases h
  · assumption
theorem ne_ee {ns p : Nat} {e : Int32} (h : ne ns p = .error e) : e = 8 + 16 * nI p ∧ ns = 40 := by
  unfold ne er at h
  split at h
  · cases h; exact ⟨rfl, by assumption⟩
  · cases h
theorem need_kk {k : Int32} {t : yTok} {y : Unit} (h : need k t = .ok y) : t.2.2.1 = k := by
  unfold need er at h
  split at h
  · assumption
  · cases h
theorem need_ee {k : Int32} {t : yTok} {e : Int32} (h : need k t = .error e) : e = 2 + 16 * nI t.2.1 ∧ t.2.2.1 ≠ k := by
  unfold need er at h
  split at h
  · cases h
  · cases h; exact ⟨rfl, by assumption⟩
theorem fourT {N tc c p c1 : Nat} {τ : zSt} (h : fo tc c p = .ok c1) (h36 : zI τ 0 36 = nI c) (h3 : zI τ 0 3 = nI tc) (htc : tc ≤ 4096) : fX12_four N (nI p) τ = some ((), zsI τ 0 36 (nI c1)) := by
  obtain ⟨rfl, h2⟩ := fo_kk h
  rw [fourR]
  unfold foS
  rw [h36, h3, show (4 : Int32) = nI 4 from rfl, nI_add, if_pos (nI_le h2 (by omega))]
theorem fourE {N tc c p : Nat} {e : Int32} {τ : zSt} (h : fo tc c p = .error e) (h21 : zI τ 0 21 = 0) (h36 : zI τ 0 36 = nI c) (h3 : zI τ 0 3 = nI tc) (hc : c ≤ 4096) : fX12_four N (nI p) τ = some ((), zsI (zsI τ 0 21 e) 0 36 (nI (c + 4))) := by
  obtain ⟨rfl, h2⟩ := fo_ee h
  rw [fourR]
  unfold foS
  rw [h36, h3, show (4 : Int32) = nI 4 from rfl, nI_add, if_neg (nI_ge h2 (by omega)), flS_eq h21]
theorem nestsT {N ns p : Nat} {y : Unit} {τ : zSt} (h : ne ns p = .ok y) (h37 : zI τ 0 37 = nI ns) (hs : ns ≤ 40) : fX12_nests N τ = some ((), zsI τ 0 37 (nI (ns + 1))) := by
  have h2 := ne_kk h
  rw [nestsR]
  unfold neS
  rw [h37, show (40 : Int32) = nI 40 from rfl, if_neg (fun q => h2 ((nI_eq (by omega) (by omega)).mp q)), nI_1]
theorem nestsE {N ns p : Nat} {e : Int32} {τ : zSt} (h : ne ns p = .error e) (h21 : zI τ 0 21 = 0) (h37 : zI τ 0 37 = nI ns) (h18 : zI τ 0 18 = nI p) : fX12_nests N τ = some ((), zsI (zsI τ 0 21 e) 0 37 (nI (ns + 1))) := by
  obtain ⟨rfl, rfl⟩ := ne_ee h
  rw [nestsR]
  unfold neS
  rw [h37, show (40 : Int32) = nI 40 from rfl, if_pos rfl, flS_eq h21, h18, nI_1]
theorem opensT {N n p ns q : Nat} {s : Int32} {y : Unit} {x : Nat → Int32} {τ : zSt} (h : ne ns q = .ok y) (hsg : sgB τ s = true) (h21 : zI τ 0 21 = 0) (h37 : zI τ 0 37 = nI ns) (hs : ns ≤ 40) (hr : srcR x n τ) (h17 : zI τ 0 17 = nI p) (hp : p ≤ n) (hN : n + 20 ≤ N) : fX12_opens N s τ = some ((), nxS x n p (zsI τ 0 37 (nI (ns + 1)))) := by
  unfold fX12_opens
  rw [isSignT hsg, obd_s, if_neg (by decide), nestsT h h37 hs, obd_s, isWellT (by rw [zI_I, if_neg (by decide)]; exact h21), obd_s, if_neg (by decide), nx_eq (srcR_I hr _ _ (by omega)) (by rw [zI_I, if_neg (by decide)]; exact h17) hp hN, obd_s]
theorem opensE {N ns q : Nat} {s e : Int32} {τ : zSt} (h : ne ns q = .error e) (he : e ≠ 0) (hsg : sgB τ s = true) (h21 : zI τ 0 21 = 0) (h37 : zI τ 0 37 = nI ns) (h18 : zI τ 0 18 = nI q) : fX12_opens N s τ = some ((), zsI (zsI τ 0 21 e) 0 37 (nI (ns + 1))) := by
  unfold fX12_opens
  rw [isSignT hsg, obd_s, if_neg (by decide), nestsE h h21 h37 h18, obd_s, isWellF (by rw [zI_I, if_neg (by decide), zI_I, if_pos ⟨rfl, rfl⟩]; exact he), obd_s, if_pos rfl]
theorem opensF {N : Nat} {s : Int32} {τ : zSt} (hsg : sgB τ s = false) : fX12_opens N s τ = some ((), stS τ) := by
  unfold fX12_opens
  rw [isSignF hsg, obd_s, if_pos rfl, strayR, obd_s]
/-! names -/
theorem locR {N : Nat} {L : lE} {w : Int64} {τ : zSt} (hL : L.2.2 ≤ 1400) (h : ∀ j, j < L.2.2 → zB τ 13 j = L.1 j) : ∀ (m f : Nat), m ≤ L.2.2 → m < f → fX12_localOf_b7 N f w (nI m - 1) τ = some (match lkN L.1 w m with | some j => nI j | none => -1, τ) := by
  intro m
  induction m with
  | zero =>
    intro f _ hf
    obtain ⟨f, rfl⟩ : ∃ g, f = g + 1 := ⟨f - 1, by omega⟩
    rw [fX12_localOf_b7, show nI 0 - 1 = -1 from rfl, if_pos (by decide)]
    rfl
  | succ m ih =>
    intro f hm hf
    obtain ⟨f, rfl⟩ : ∃ g, f = g + 1 := ⟨f - 1, by omega⟩
    rw [fX12_localOf_b7, nI_pred, if_neg (nI_pos (by omega)), nI_clamp (by omega), if_neg (ixN (by omega) (by omega)), h m (by omega)]
    unfold lkN
    by_cases e : L.1 m = w
    · rw [if_pos ((lg_cmp_eq _ _).mpr e), if_pos e]
    · rw [if_neg (fun q => e ((lg_cmp_eq _ _).mp q)), if_neg e, bnd_e, show nI m + -1 = nI m - 1 from (Int32.sub_eq_add_neg ..).symm, ih f (by omega) (by omega)]
theorem namR {N : Nat} {G : gE} {w : Int64} {τ : zSt} (hL : G.2.2.2.2 ≤ 1400) (h : ∀ j, j < G.2.2.2.2 → zB τ 7 j = G.1 j) : ∀ (m f : Nat), m ≤ G.2.2.2.2 → m < f → fX12_named_b7 N f w (nI m - 1) τ = some (match lkN G.1 w m with | some j => nI j | none => -1, τ) := by
  intro m
  induction m with
  | zero =>
    intro f _ hf
    obtain ⟨f, rfl⟩ : ∃ g, f = g + 1 := ⟨f - 1, by omega⟩
    rw [fX12_named_b7, show nI 0 - 1 = -1 from rfl, if_pos (by decide)]
    rfl
  | succ m ih =>
    intro f hm hf
    obtain ⟨f, rfl⟩ : ∃ g, f = g + 1 := ⟨f - 1, by omega⟩
    rw [fX12_named_b7, nI_pred, if_neg (nI_pos (by omega)), nI_clamp (by omega), if_neg (ixN (by omega) (by omega)), h m (by omega)]
    unfold lkN
    by_cases e : G.1 m = w
    · rw [if_pos ((lg_cmp_eq _ _).mpr e), if_pos e]
    · rw [if_neg (fun q => e ((lg_cmp_eq _ _).mp q)), if_neg e, bnd_e, show nI m + -1 = nI m - 1 from (Int32.sub_eq_add_neg ..).symm, ih f (by omega) (by omega)]
def ixI (o : Option Nat) : Int32 := match o with
  | some j => nI j
  | none => -1
theorem localOfR {N : Nat} {x : Nat → Int32} {n tc : Nat} {G : gE} {L : lE} {w : Int64} {τ : zSt} (h : rS x n tc G L τ) (hL : L.2.2 ≤ 1400) (hN : 2000 ≤ N) : fX12_localOf N w τ = some (ixI (lkN L.1 w L.2.2), τ) := by
  unfold fX12_localOf
  rw [bnd_e, h.2.2.2.2.1]
  exact locR hL (fun j hj => (h.2.2.2.2.2 j hj).1) _ _ (Nat.le_refl _) (by omega)
theorem namedR {N : Nat} {x : Nat → Int32} {n tc : Nat} {G : gE} {L : lE} {w : Int64} {τ : zSt} (h : rS x n tc G L τ) (hL : G.2.2.2.2 ≤ 1400) (hN : 2000 ≤ N) : fX12_named N w τ = some (ixI (lkN G.1 w G.2.2.2.2), τ) := by
  unfold fX12_named
  rw [bnd_e, h.2.2.1]
  exact namR hL (fun j hj => (h.2.2.2.1 j hj).1) _ _ (Nat.le_refl _) (by omega)
/-! bounds -/
def BD (n tc : Nat) (tk : yTok) (c ns nd w : Nat) : Prop := tkO n tk ∧ c ≤ tc ∧ tc ≤ 4096 ∧ ns ≤ 40 ∧ nd ≤ 2 * tk.2.1 + 2 ∧ w ≤ tk.2.1 + 1
theorem RV_D {x : Nat → Int32} {n tc : Nat} {G : gE} {L : lE} {tk : yTok} {c ns nd w : Nat} {τ : zSt} (h : RV x n tc G L tk c ns nd w τ) (hb : BD n tc tk c ns nd w) (hn : n ≤ 512) : rD x n 1100 τ :=
  ⟨h.1.1, ⟨tk.1, hb.1.2.1, h.2.1.1⟩, nd, by have := hb.1.1; have := hb.1.2.1; have := hb.2.2.2.2.1; omega, h.2.2.2.2.2.1⟩
theorem rD_le {x : Nat → Int32} {n b b' : Nat} {τ : zSt} (h : rD x n b τ) (hb : b ≤ b') : rD x n b' τ := by
  obtain ⟨h2, h3, d, h4, h5⟩ := h
  exact ⟨h2, h3, d, by omega, h5⟩
