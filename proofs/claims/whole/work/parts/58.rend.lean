/-! THE REFERENCE'S READER: E, what ends it-/
def rK (τ : zSt) (K : Int32) : Prop := kOf (zI τ 0 19) (zL τ 0 20) = K ∧ kV (zI τ 0 19) (zL τ 0 20)
theorem rT_K {tk : yTok} {τ : zSt} (h : rT tk τ) : rK τ tk.2.2.1 := by
  obtain ⟨a1, a2, a3, a4, a5⟩ := h
  unfold rK
  rw [a3]
  exact ⟨a4, a5⟩
theorem PD_K {e : Int32} {τ : zSt} (h : PD e τ) : rK τ (-1) := by
  unfold rK
  rw [h.2.1]
  exact ⟨rfl, Or.inr (Or.inr (Or.inr (Or.inr (Or.inr rfl))))⟩
theorem sB49 {τ : zSt} {K : Int32} (h : zI τ 0 21 = 0) (hk : rK τ K) : sgB τ 40 = true ↔ K = 49 := by
  rw [← sg49 hk.1 hk.2]
  unfold sgB
  rw [decide_eq_true_eq]
  exact ⟨fun q => q.2, fun q => ⟨h, q⟩⟩
theorem sF49 {τ : zSt} {K : Int32} (h : zI τ 0 21 = 0) (hk : rK τ K) (e : K ≠ 49) : sgB τ 40 = false := by
  rw [Bool.eq_false_iff]
  exact fun q => e ((sB49 h hk).mp q)
theorem sB50 {τ : zSt} {K : Int32} (h : zI τ 0 21 = 0) (hk : rK τ K) : sgB τ 41 = true ↔ K = 50 := by
  rw [← sg50 hk.1 hk.2]
  unfold sgB
  rw [decide_eq_true_eq]
  exact ⟨fun q => q.2, fun q => ⟨h, q⟩⟩
theorem sF50 {τ : zSt} {K : Int32} (h : zI τ 0 21 = 0) (hk : rK τ K) (e : K ≠ 50) : sgB τ 41 = false := by
  rw [Bool.eq_false_iff]
  exact fun q => e ((sB50 h hk).mp q)
theorem sB51 {τ : zSt} {K : Int32} (h : zI τ 0 21 = 0) (hk : rK τ K) : sgB τ 123 = true ↔ K = 51 := by
  rw [← sg51 hk.1 hk.2]
  unfold sgB
  rw [decide_eq_true_eq]
  exact ⟨fun q => q.2, fun q => ⟨h, q⟩⟩
theorem sF51 {τ : zSt} {K : Int32} (h : zI τ 0 21 = 0) (hk : rK τ K) (e : K ≠ 51) : sgB τ 123 = false := by
  rw [Bool.eq_false_iff]
  exact fun q => e ((sB51 h hk).mp q)
theorem sB52 {τ : zSt} {K : Int32} (h : zI τ 0 21 = 0) (hk : rK τ K) : sgB τ 125 = true ↔ K = 52 := by
  rw [← sg52 hk.1 hk.2]
  unfold sgB
  rw [decide_eq_true_eq]
  exact ⟨fun q => q.2, fun q => ⟨h, q⟩⟩
theorem sF52 {τ : zSt} {K : Int32} (h : zI τ 0 21 = 0) (hk : rK τ K) (e : K ≠ 52) : sgB τ 125 = false := by
  rw [Bool.eq_false_iff]
  exact fun q => e ((sB52 h hk).mp q)
theorem sB53 {τ : zSt} {K : Int32} (h : zI τ 0 21 = 0) (hk : rK τ K) : sgB τ 91 = true ↔ K = 53 := by
  rw [← sg53 hk.1 hk.2]
  unfold sgB
  rw [decide_eq_true_eq]
  exact ⟨fun q => q.2, fun q => ⟨h, q⟩⟩
theorem sF53 {τ : zSt} {K : Int32} (h : zI τ 0 21 = 0) (hk : rK τ K) (e : K ≠ 53) : sgB τ 91 = false := by
  rw [Bool.eq_false_iff]
  exact fun q => e ((sB53 h hk).mp q)
theorem sB54 {τ : zSt} {K : Int32} (h : zI τ 0 21 = 0) (hk : rK τ K) : sgB τ 93 = true ↔ K = 54 := by
  rw [← sg54 hk.1 hk.2]
  unfold sgB
  rw [decide_eq_true_eq]
  exact ⟨fun q => q.2, fun q => ⟨h, q⟩⟩
theorem sF54 {τ : zSt} {K : Int32} (h : zI τ 0 21 = 0) (hk : rK τ K) (e : K ≠ 54) : sgB τ 93 = false := by
  rw [Bool.eq_false_iff]
  exact fun q => e ((sB54 h hk).mp q)
theorem sB55 {τ : zSt} {K : Int32} (h : zI τ 0 21 = 0) (hk : rK τ K) : sgB τ 44 = true ↔ K = 55 := by
  rw [← sg55 hk.1 hk.2]
  unfold sgB
  rw [decide_eq_true_eq]
  exact ⟨fun q => q.2, fun q => ⟨h, q⟩⟩
theorem sF55 {τ : zSt} {K : Int32} (h : zI τ 0 21 = 0) (hk : rK τ K) (e : K ≠ 55) : sgB τ 44 = false := by
  rw [Bool.eq_false_iff]
  exact fun q => e ((sB55 h hk).mp q)
theorem sB56 {τ : zSt} {K : Int32} (h : zI τ 0 21 = 0) (hk : rK τ K) : sgB τ 59 = true ↔ K = 56 := by
  rw [← sg56 hk.1 hk.2]
  unfold sgB
  rw [decide_eq_true_eq]
  exact ⟨fun q => q.2, fun q => ⟨h, q⟩⟩
theorem sF56 {τ : zSt} {K : Int32} (h : zI τ 0 21 = 0) (hk : rK τ K) (e : K ≠ 56) : sgB τ 59 = false := by
  rw [Bool.eq_false_iff]
  exact fun q => e ((sB56 h hk).mp q)
theorem sB57 {τ : zSt} {K : Int32} (h : zI τ 0 21 = 0) (hk : rK τ K) : sgB τ 61 = true ↔ K = 57 := by
  rw [← sg57 hk.1 hk.2]
  unfold sgB
  rw [decide_eq_true_eq]
  exact ⟨fun q => q.2, fun q => ⟨h, q⟩⟩
theorem sF57 {τ : zSt} {K : Int32} (h : zI τ 0 21 = 0) (hk : rK τ K) (e : K ≠ 57) : sgB τ 61 = false := by
  rw [Bool.eq_false_iff]
  exact fun q => e ((sB57 h hk).mp q)
theorem sB22 {τ : zSt} {K : Int32} (h : zI τ 0 21 = 0) (hk : rK τ K) : sgB τ 45 = true ↔ K = 22 := by
  rw [← sg22 hk.1 hk.2]
  unfold sgB
  rw [decide_eq_true_eq]
  exact ⟨fun q => q.2, fun q => ⟨h, q⟩⟩
theorem sF22 {τ : zSt} {K : Int32} (h : zI τ 0 21 = 0) (hk : rK τ K) (e : K ≠ 22) : sgB τ 45 = false := by
  rw [Bool.eq_false_iff]
  exact fun q => e ((sB22 h hk).mp q)
theorem sB25 {τ : zSt} {K : Int32} (h : zI τ 0 21 = 0) (hk : rK τ K) : sgB τ 33 = true ↔ K = 25 := by
  rw [← sg25 hk.1 hk.2]
  unfold sgB
  rw [decide_eq_true_eq]
  exact ⟨fun q => q.2, fun q => ⟨h, q⟩⟩
theorem sF25 {τ : zSt} {K : Int32} (h : zI τ 0 21 = 0) (hk : rK τ K) (e : K ≠ 25) : sgB τ 33 = false := by
  rw [Bool.eq_false_iff]
  exact fun q => e ((sB25 h hk).mp q)
theorem sB26 {τ : zSt} {K : Int32} (h : zI τ 0 21 = 0) (hk : rK τ K) : sgB τ 126 = true ↔ K = 26 := by
  rw [← sg26 hk.1 hk.2]
  unfold sgB
  rw [decide_eq_true_eq]
  exact ⟨fun q => q.2, fun q => ⟨h, q⟩⟩
theorem sF26 {τ : zSt} {K : Int32} (h : zI τ 0 21 = 0) (hk : rK τ K) (e : K ≠ 26) : sgB τ 126 = false := by
  rw [Bool.eq_false_iff]
  exact fun q => e ((sB26 h hk).mp q)
theorem wB42 {τ : zSt} {K : Int32} (h : zI τ 0 21 = 0) (hk : rK τ K) : wdB τ 0 = true ↔ K = 42 := by
  rw [← wd42 hk.1 hk.2]
  unfold wdB
  rw [decide_eq_true_eq]
  exact ⟨fun q => q.2, fun q => ⟨h, q⟩⟩
theorem wF42 {τ : zSt} {K : Int32} (h : zI τ 0 21 = 0) (hk : rK τ K) (e : K ≠ 42) : wdB τ 0 = false := by
  rw [Bool.eq_false_iff]
  exact fun q => e ((wB42 h hk).mp q)
theorem wB43 {τ : zSt} {K : Int32} (h : zI τ 0 21 = 0) (hk : rK τ K) : wdB τ 1 = true ↔ K = 43 := by
  rw [← wd43 hk.1 hk.2]
  unfold wdB
  rw [decide_eq_true_eq]
  exact ⟨fun q => q.2, fun q => ⟨h, q⟩⟩
theorem wF43 {τ : zSt} {K : Int32} (h : zI τ 0 21 = 0) (hk : rK τ K) (e : K ≠ 43) : wdB τ 1 = false := by
  rw [Bool.eq_false_iff]
  exact fun q => e ((wB43 h hk).mp q)
theorem wB44 {τ : zSt} {K : Int32} (h : zI τ 0 21 = 0) (hk : rK τ K) : wdB τ 2 = true ↔ K = 44 := by
  rw [← wd44 hk.1 hk.2]
  unfold wdB
  rw [decide_eq_true_eq]
  exact ⟨fun q => q.2, fun q => ⟨h, q⟩⟩
theorem wF44 {τ : zSt} {K : Int32} (h : zI τ 0 21 = 0) (hk : rK τ K) (e : K ≠ 44) : wdB τ 2 = false := by
  rw [Bool.eq_false_iff]
  exact fun q => e ((wB44 h hk).mp q)
theorem wB45 {τ : zSt} {K : Int32} (h : zI τ 0 21 = 0) (hk : rK τ K) : wdB τ 3 = true ↔ K = 45 := by
  rw [← wd45 hk.1 hk.2]
  unfold wdB
  rw [decide_eq_true_eq]
  exact ⟨fun q => q.2, fun q => ⟨h, q⟩⟩
theorem wF45 {τ : zSt} {K : Int32} (h : zI τ 0 21 = 0) (hk : rK τ K) (e : K ≠ 45) : wdB τ 3 = false := by
  rw [Bool.eq_false_iff]
  exact fun q => e ((wB45 h hk).mp q)
theorem wB46 {τ : zSt} {K : Int32} (h : zI τ 0 21 = 0) (hk : rK τ K) : wdB τ 4 = true ↔ K = 46 := by
  rw [← wd46 hk.1 hk.2]
  unfold wdB
  rw [decide_eq_true_eq]
  exact ⟨fun q => q.2, fun q => ⟨h, q⟩⟩
theorem wF46 {τ : zSt} {K : Int32} (h : zI τ 0 21 = 0) (hk : rK τ K) (e : K ≠ 46) : wdB τ 4 = false := by
  rw [Bool.eq_false_iff]
  exact fun q => e ((wB46 h hk).mp q)
theorem wB47 {τ : zSt} {K : Int32} (h : zI τ 0 21 = 0) (hk : rK τ K) : wdB τ 5 = true ↔ K = 47 := by
  rw [← wd47 hk.1 hk.2]
  unfold wdB
  rw [decide_eq_true_eq]
  exact ⟨fun q => q.2, fun q => ⟨h, q⟩⟩
theorem wF47 {τ : zSt} {K : Int32} (h : zI τ 0 21 = 0) (hk : rK τ K) (e : K ≠ 47) : wdB τ 5 = false := by
  rw [Bool.eq_false_iff]
  exact fun q => e ((wB47 h hk).mp q)
theorem wB48 {τ : zSt} {K : Int32} (h : zI τ 0 21 = 0) (hk : rK τ K) : wdB τ 6 = true ↔ K = 48 := by
  rw [← wd48 hk.1 hk.2]
  unfold wdB
  rw [decide_eq_true_eq]
  exact ⟨fun q => q.2, fun q => ⟨h, q⟩⟩
theorem wF48 {τ : zSt} {K : Int32} (h : zI τ 0 21 = 0) (hk : rK τ K) (e : K ≠ 48) : wdB τ 6 = false := by
  rw [Bool.eq_false_iff]
  exact fun q => e ((wB48 h hk).mp q)
theorem b01t : b01 true = 1 := rfl
theorem b01f : b01 false = 0 := rfl
theorem isSignT {N : Nat} {τ : zSt} {s : Int32} (h : sgB τ s = true) : fX12_isSign N s τ = some (1, τ) := by rw [isSignR, h]; rfl
theorem isSignF {N : Nat} {τ : zSt} {s : Int32} (h : sgB τ s = false) : fX12_isSign N s τ = some (0, τ) := by rw [isSignR, h]; rfl
theorem isWordT {N : Nat} {τ : zSt} {s : Int32} (h : wdB τ s = true) : fX12_isWord N s τ = some (1, τ) := by rw [isWordR, h]; rfl
theorem isWordF {N : Nat} {τ : zSt} {s : Int32} (h : wdB τ s = false) : fX12_isWord N s τ = some (0, τ) := by rw [isWordR, h]; rfl
theorem isWellT {N : Nat} {τ : zSt} (h : zI τ 0 21 = 0) : fX12_isWell N τ = some (1, τ) := by rw [isWellR, h]; rfl
theorem isWellF {N : Nat} {τ : zSt} (h : zI τ 0 21 ≠ 0) : fX12_isWell N τ = some (0, τ) := by
  rw [isWellR]
  simp [h, b01]
theorem sgB_d {τ : zSt} {s : Int32} (h : zI τ 0 21 ≠ 0) : sgB τ s = false := by unfold sgB; simp [h]
theorem wdB_d {τ : zSt} {s : Int32} (h : zI τ 0 21 ≠ 0) : wdB τ s = false := by unfold wdB; simp [h]
/-- what stray() tells -/
def stE (τ : zSt) : Int32 := (if zI τ 0 19 = 5 then 1 else 2) + 16 * zI τ 0 18
theorem stS_eq {τ : zSt} (h : zI τ 0 21 = 0) : stS τ = zsI τ 0 21 (stE τ) := by
  unfold stS flS stE
  rw [if_pos h]
theorem stS_d {τ : zSt} (h : zI τ 0 21 ≠ 0) : stS τ = τ := by
  unfold stS flS
  rw [if_neg h]
theorem flS_eq {τ : zSt} {k p : Int32} (h : zI τ 0 21 = 0) : flS τ k p = zsI τ 0 21 (k + 16 * p) := by
  unfold flS
  rw [if_pos h]
theorem flS_d {τ : zSt} {k p : Int32} (h : zI τ 0 21 ≠ 0) : flS τ k p = τ := by
  unfold flS
  rw [if_neg h]
theorem takesF {N : Nat} {τ : zSt} {s : Int32} (h : sgB τ s = false) : fX12_takes N s τ = some ((), stS τ) := takesR_no (by rw [h]; decide)
theorem closesF {N : Nat} {τ : zSt} {s : Int32} (h : sgB τ s = false) : fX12_closes N s τ = some ((), zsI (stS τ) 0 37 (zI (stS τ) 0 37 - 1)) := by
  unfold fX12_closes
  rw [takesF h]
  rfl
theorem closesT {N : Nat} {x : Nat → Int32} {n p : Nat} {τ : zSt} {s : Int32} (h : sgB τ s = true) (hs : srcR x n τ) (h17 : zI τ 0 17 = nI p) (hp : p ≤ n) (hN : n + 20 ≤ N) : fX12_closes N s τ = some ((), zsI (nxS x n p τ) 0 37 (zI τ 0 37 - 1)) := by
  unfold fX12_closes
  rw [takesR_yes h, nx_eq hs h17 hp hN, obd_s, bnd_e, nxS_I (by omega)]
/-- which of the waiting ones has opened this E: tk cl ends it -/
def opn (τ : zSt) (v : Nat) (cl : Int32) : Prop :=
  (v = 0 ∧ zA τ 29 v = 0 ∧ ((cl = 56 ∧ zA τ 31 v = 59) ∨ (cl = 50 ∧ zA τ 31 v = 41) ∨ (cl = 54 ∧ zA τ 31 v = 93))) ∨ (zA τ 29 v = 1 ∧ cl = 50) ∨ (zA τ 29 v = 2 ∧ cl = 54 ∧ ∃ m, m < 4200 ∧ zA τ 30 v = nI m) ∨
  (zA τ 29 v = 3 ∧ cl = 55 ∧ (∃ m, m < 4200 ∧ zA τ 30 v = nI m) ∧ (zA τ 33 v = -1 ∨ ∃ j, j < 4200 ∧ zA τ 33 v = nI j))
theorem opn_cong {τ u : zSt} {v : Nat} {cl : Int32} (h : opn τ v cl) (hf : ∀ a, 29 ≤ a → a ≤ 33 → zA u a v = zA τ a v) : opn u v cl := by
  unfold opn
  rw [hf 29 (by omega) (by omega), hf 30 (by omega) (by omega), hf 31 (by omega) (by omega), hf 33 (by omega) (by omega)]
  exact h
theorem opn_fE {lo w0 : Nat} {τ u : zSt} {v : Nat} {cl : Int32} (h : opn τ v cl) (hf : fE lo w0 τ u) (hv : v < w0) : opn u v cl := opn_cong h (fun a h1 h2 => hf.2.1 a v (by omega) (by omega))
theorem opn_5 {τ : zSt} {v : Nat} {cl : Int32} (h : opn τ v cl) : zA τ 29 v ≠ 5 ∧ zA τ 29 v ≠ 4 := by
  rcases h with ⟨-, h, -⟩ | ⟨h, -⟩ | ⟨h, -⟩ | ⟨h, -⟩ <;> rw [h] <;> decide
def sgC (cl : Int32) : Int32 := if cl = 56 then 59 else if cl = 50 then 41 else 93
/-- what comes of an E in which something is wrong: at the top the token that ended it may still wait to be told -/
def FO (x : Nat → Int32) (n : Nat) (e : Int32) (v : Nat) (cl : Int32) (τ u : zSt) : Prop :=
  FX x n e τ u ∨ (zA τ 29 v = 0 ∧ zI u 0 21 = 0 ∧ rD x n 1200 u ∧ fP τ u ∧ e = stE u ∧ sgB u (sgC cl) = false)
theorem FO_tr {x : Nat → Int32} {n : Nat} {e : Int32} {v : Nat} {cl : Int32} {τ u z : zSt} (h : FO x n e v cl u z) (hp : fP τ u) (h29 : zA u 29 v = zA τ 29 v) : FO x n e v cl τ z := by
  rcases h with ⟨h1, h2, h3⟩ | ⟨h1, h2, h3, h4, h5⟩
  · exact Or.inl ⟨h1, h2, fP_trans hp h3⟩
  · exact Or.inr ⟨h29 ▸ h1, h2, h3, fP_trans hp h4, h5⟩
theorem wkX {N m w i0 : Nat} {τ : zSt} (h21 : zI τ 0 21 = 0) (h54 : zI τ 0 54 = nI (w + 1)) (hw : w < 2000) (hi : i0 < 4200) : fX12_works_b2 N (m + 1) (nI i0) τ = fX12_works_b28 N (fX12_works_b2 N m) N (nI i0) τ := by
  rw [fX12_works_b2, isWellT h21, obd_s, if_neg (by decide), h54, if_neg (nI_nle (by omega) (by omega)), if_pos (nI_pos' (by omega))]
theorem wkN {N m w : Nat} {τ : zSt} (h21 : zI τ 0 21 = 0) (h54 : zI τ 0 54 = nI (w + 1)) (hw : w < 2000) : fX12_works_b2 N (m + 1) (-1) τ = obd (fX12_part N τ) (fun r u => fX12_works_b2 N m r u) := by
  rw [fX12_works_b2, isWellT h21, obd_s, if_neg (by decide), h54, if_neg (nI_nle (by omega) (by omega)), if_neg (by decide)]
theorem wkE {N m : Nat} {r : Int32} {u : zSt} {Q : Int32 → zSt → Prop} (h21 : zI u 0 21 ≠ 0) (hQ : ∀ r, Q r u) : wp (fX12_works_b2 N (m + 1) r u) Q := by
  rw [fX12_works_b2, isWellF h21, obd_s, if_pos rfl]
  unfold fX12_works_b135
  split
  · exact wp_s (hQ _)
  · exact wp_s (hQ _)
theorem yEnds_F {cl K : Int32} (h : yEnds cl K = false) : K ≠ cl ∧ ¬ (cl = 55 ∧ K = 50) := by
  unfold yEnds at h
  rw [decide_eq_false_iff_not] at h
  exact ⟨fun q => h (Or.inl q), fun q => h (Or.inr q)⟩
theorem endsO {N v : Nat} {x k2 k3 : Int32} {τ : zSt} (h54 : zI τ 0 54 = nI (v + 1)) (hv : v < 1299) (h30 : zA τ 30 v = k2) (h29 : zA τ 29 v = k3) : fX12_endsOpen N x τ =
    (if k3 = 1 then obd (fX12_closes N 41 τ) (fun _ u => some (x, zsI u 0 54 (zI u 0 54 - 1)))
     else if k3 = 2 then obd (fX12_closes N 93 τ) (fun _ u => if k2 < 0 ∨ 4200 ≤ k2.toNatClampNeg then none else some (k2, zsA (zsI u 0 54 (zI u 0 54 - 1)) 16 k2.toNatClampNeg x))
     else if k3 = 3 then (if zA τ 33 v = -1 then (if k2 < 0 ∨ 4200 ≤ k2.toNatClampNeg then none else fX12_endsOpen_b123 N x (nI v) k2 (zsA τ 16 k2.toNatClampNeg x))
       else (if zA τ 33 v < 0 ∨ 4200 ≤ (zA τ 33 v).toNatClampNeg then none else fX12_endsOpen_b123 N x (nI v) k2 (zsA τ 21 (zA τ 33 v).toNatClampNeg x)))
     else some (x, zsI τ 0 54 (nI v))) := by
  have hi : ¬ (nI v < 0 ∨ 1300 ≤ v) := by
    rintro (q | q)
    · exact nI_pos (by omega) q
    · omega
  unfold fX12_endsOpen
  rw [bnd_e, h54, nI_pred, nI_clamp (by omega), if_neg hi, bnd_e, if_neg hi, bnd_e, h30, h29]
  simp only [bnd_e, if_neg hi]
theorem endsB {N v m1 : Nat} {x : Int32} {τ : zSt} (hv : v < 1299) (hm : m1 < 4200) : fX12_endsOpen_b123 N x (nI v) (nI m1) τ =
    obd (fX12_isSign N 44 (zsA (zsA τ 33 v x) 20 m1 (zA (zsA τ 33 v x) 20 m1 + 1))) (fun r u =>
      if r = 0 then obd (fX12_isSign N 41 u) (fun r2 u2 => if r2 = 0 then obd (fX12_stray N u2) (fun _ u3 => some (nI m1, u3)) else obd (fX12_endsCall N (nI m1) (zA u2 32 v) u2) (fun r3 u3 => some (r3, u3)))
      else obd (fX12_next N u) (fun _ u2 => some (-1, u2))) := by
  have hi : ¬ (nI v < 0 ∨ 1300 ≤ v) := by
    rintro (q | q)
    · exact nI_pos (by omega) q
    · omega
  have hj : ¬ (nI m1 < 0 ∨ 4200 ≤ m1) := by
    rintro (q | q)
    · exact nI_pos (by omega) q
    · omega
  unfold fX12_endsOpen_b123
  rw [nI_clamp (by omega), nI_clamp (by omega)]
  simp only [bnd_e, if_neg hi, if_neg hj]
theorem ixN {n k : Nat} (h : n < k) (hk : k < 2 ^ 31) : ¬ (nI n < 0 ∨ k ≤ n) := by
  rintro (q | q)
  · exact nI_pos (by omega) q
  · omega
/-- the last of an E is there, but the token behind it can't stand there -/
theorem endF {x : Nat → Int32} {n N m v i0 : Nat} {cl K : Int32} {e : Int32} {τ : zSt} {Q : Int32 → zSt → Prop} (hr : rD x n 1200 τ) (h21 : zI τ 0 21 = 0) (h54 : zI τ 0 54 = nI (v + 1)) (hv : v < 1299) (hop : opn τ v cl) (hK : rK τ K) (hE : yEnds cl K = false) (he : e = stE τ) (he0 : e ≠ 0) (hi : i0 < 4200) (hQ : ∀ r u, FO x n e v cl τ u → Q r u) :
    wp (obd (fX12_endsOpen N (nI i0) τ) (fun r u => fX12_works_b2 N (m + 1) r u)) Q := by
  obtain ⟨r1, ⟨p, r2, r3⟩, d, r4, r5⟩ := hr
  obtain ⟨k1, k2⟩ := yEnds_F hE
  have hst : stE τ ≠ 0 := he ▸ he0
  rcases hop with ⟨rfl, h29, hcl⟩ | ⟨h29, hcl⟩ | ⟨h29, hcl, m1, hm1, h30⟩ | ⟨h29, hcl, ⟨m1, hm1, h30⟩, h33⟩
  · rw [endsO h54 hv rfl h29, if_neg (by decide), if_neg (by decide), if_neg (by decide), obd_s]
    rw [fX12_works_b2, isWellT (by simp only [zI_I, zI_L, zI_R, zI_A, zI_B, zL_I, zL_L, zL_R, zL_A, zL_B, zA_I, zA_L, zA_R, zA_A, zA_B, zB_I, zB_L, zB_R, zB_A, zB_B, reduceIte, Nat.reduceEqDiff, Nat.reduceEqDiff, false_and, and_false, true_and, and_true, ne_eq, not_false_eq_true, not_true_eq_false]; exact h21), obd_s, if_neg (by decide)]
    simp only [zI_I, zI_L, zI_R, zI_A, zI_B, zL_I, zL_L, zL_R, zL_A, zL_B, zA_I, zA_L, zA_R, zA_A, zA_B, zB_I, zB_L, zB_R, zB_A, zB_B, reduceIte, Nat.reduceEqDiff, Nat.reduceEqDiff, false_and, and_false, true_and, and_true, ne_eq, not_false_eq_true, not_true_eq_false]
    rw [if_pos (by decide)]
    unfold fX12_works_b135
    rw [if_pos (nI_pos' (by omega))]
    refine wp_s (hQ _ _ (Or.inr ⟨h29, by simp only [zI_I, zI_L, zI_R, zI_A, zI_B, zL_I, zL_L, zL_R, zL_A, zL_B, zA_I, zA_L, zA_R, zA_A, zA_B, zB_I, zB_L, zB_R, zB_A, zB_B, reduceIte, Nat.reduceEqDiff, Nat.reduceEqDiff, false_and, and_false, true_and, and_true, ne_eq, not_false_eq_true, not_true_eq_false]; exact h21, ⟨srcR_I r1 _ _ (by omega), ⟨p, r2, by simp only [zI_I, zI_L, zI_R, zI_A, zI_B, zL_I, zL_L, zL_R, zL_A, zL_B, zA_I, zA_L, zA_R, zA_A, zA_B, zB_I, zB_L, zB_R, zB_A, zB_B, reduceIte, Nat.reduceEqDiff, Nat.reduceEqDiff, false_and, and_false, true_and, and_true, ne_eq, not_false_eq_true, not_true_eq_false]; exact r3⟩, d, r4, by simp only [zI_I, zI_L, zI_R, zI_A, zI_B, zL_I, zL_L, zL_R, zL_A, zL_B, zA_I, zA_L, zA_R, zA_A, zA_B, zB_I, zB_L, zB_R, zB_A, zB_B, reduceIte, Nat.reduceEqDiff, Nat.reduceEqDiff, false_and, and_false, true_and, and_true, ne_eq, not_false_eq_true, not_true_eq_false]; exact r5⟩, fP_I fP_refl (by omega), by rw [he]; unfold stE; simp only [zI_I, zI_L, zI_R, zI_A, zI_B, zL_I, zL_L, zL_R, zL_A, zL_B, zA_I, zA_L, zA_R, zA_A, zA_B, zB_I, zB_L, zB_R, zB_A, zB_B, reduceIte, Nat.reduceEqDiff, Nat.reduceEqDiff, false_and, and_false, true_and, and_true, ne_eq, not_false_eq_true, not_true_eq_false], ?_⟩))
    have hK2 : rK (zsI τ 0 54 (nI 0)) K := by unfold rK; simp only [zI_I, zI_L, zI_R, zI_A, zI_B, zL_I, zL_L, zL_R, zL_A, zL_B, zA_I, zA_L, zA_R, zA_A, zA_B, zB_I, zB_L, zB_R, zB_A, zB_B, reduceIte, Nat.reduceEqDiff, Nat.reduceEqDiff, false_and, and_false, true_and, and_true, ne_eq, not_false_eq_true, not_true_eq_false]; exact hK
    have h21b : zI (zsI τ 0 54 (nI 0)) 0 21 = 0 := by simp only [zI_I, zI_L, zI_R, zI_A, zI_B, zL_I, zL_L, zL_R, zL_A, zL_B, zA_I, zA_L, zA_R, zA_A, zA_B, zB_I, zB_L, zB_R, zB_A, zB_B, reduceIte, Nat.reduceEqDiff, Nat.reduceEqDiff, false_and, and_false, true_and, and_true, ne_eq, not_false_eq_true, not_true_eq_false]; exact h21
    rcases hcl with ⟨rfl, -⟩ | ⟨rfl, -⟩ | ⟨rfl, -⟩
    · exact sF56 h21b hK2 k1
    · exact sF50 h21b hK2 k1
    · exact sF54 h21b hK2 k1
  · subst hcl
    rw [endsO h54 hv rfl h29, if_pos rfl, closesF (sF50 h21 hK k1), stS_eq h21, obd_s, obd_s]
    refine wkE (by simp only [zI_I, zI_L, zI_R, zI_A, zI_B, zL_I, zL_L, zL_R, zL_A, zL_B, zA_I, zA_L, zA_R, zA_A, zA_B, zB_I, zB_L, zB_R, zB_A, zB_B, reduceIte, Nat.reduceEqDiff, Nat.reduceEqDiff, false_and, and_false, true_and, and_true, ne_eq, not_false_eq_true, not_true_eq_false]; exact hst) (fun r => hQ _ _ (Or.inl ⟨by simp only [zI_I, zI_L, zI_R, zI_A, zI_B, zL_I, zL_L, zL_R, zL_A, zL_B, zA_I, zA_L, zA_R, zA_A, zA_B, zB_I, zB_L, zB_R, zB_A, zB_B, reduceIte, Nat.reduceEqDiff, Nat.reduceEqDiff, false_and, and_false, true_and, and_true, ne_eq, not_false_eq_true, not_true_eq_false]; exact he.symm, ⟨srcR_I (srcR_I (srcR_I r1 _ _ (by omega)) _ _ (by omega)) _ _ (by omega), ⟨p, r2, by simp only [zI_I, zI_L, zI_R, zI_A, zI_B, zL_I, zL_L, zL_R, zL_A, zL_B, zA_I, zA_L, zA_R, zA_A, zA_B, zB_I, zB_L, zB_R, zB_A, zB_B, reduceIte, Nat.reduceEqDiff, Nat.reduceEqDiff, false_and, and_false, true_and, and_true, ne_eq, not_false_eq_true, not_true_eq_false]; exact r3⟩, d, r4, by simp only [zI_I, zI_L, zI_R, zI_A, zI_B, zL_I, zL_L, zL_R, zL_A, zL_B, zA_I, zA_L, zA_R, zA_A, zA_B, zB_I, zB_L, zB_R, zB_A, zB_B, reduceIte, Nat.reduceEqDiff, Nat.reduceEqDiff, false_and, and_false, true_and, and_true, ne_eq, not_false_eq_true, not_true_eq_false]; exact r5⟩, fP_I (fP_I (fP_I fP_refl (by omega)) (by omega)) (by omega)⟩))
  · subst hcl
    rw [endsO h54 hv h30 h29, if_neg (by decide), if_pos rfl, closesF (sF54 h21 hK k1), stS_eq h21, obd_s, nI_clamp (by omega), if_neg (ixN hm1 (by omega)), obd_s]
    refine wkE (by simp only [zI_I, zI_L, zI_R, zI_A, zI_B, zL_I, zL_L, zL_R, zL_A, zL_B, zA_I, zA_L, zA_R, zA_A, zA_B, zB_I, zB_L, zB_R, zB_A, zB_B, reduceIte, Nat.reduceEqDiff, Nat.reduceEqDiff, false_and, and_false, true_and, and_true, ne_eq, not_false_eq_true, not_true_eq_false]; exact hst) (fun r => hQ _ _ (Or.inl ⟨by simp only [zI_I, zI_L, zI_R, zI_A, zI_B, zL_I, zL_L, zL_R, zL_A, zL_B, zA_I, zA_L, zA_R, zA_A, zA_B, zB_I, zB_L, zB_R, zB_A, zB_B, reduceIte, Nat.reduceEqDiff, Nat.reduceEqDiff, false_and, and_false, true_and, and_true, ne_eq, not_false_eq_true, not_true_eq_false]; exact he.symm, ⟨srcR_fP r1 ?_, ⟨p, r2, by simp only [zI_I, zI_L, zI_R, zI_A, zI_B, zL_I, zL_L, zL_R, zL_A, zL_B, zA_I, zA_L, zA_R, zA_A, zA_B, zB_I, zB_L, zB_R, zB_A, zB_B, reduceIte, Nat.reduceEqDiff, Nat.reduceEqDiff, false_and, and_false, true_and, and_true, ne_eq, not_false_eq_true, not_true_eq_false]; exact r3⟩, d, r4, by simp only [zI_I, zI_L, zI_R, zI_A, zI_B, zL_I, zL_L, zL_R, zL_A, zL_B, zA_I, zA_L, zA_R, zA_A, zA_B, zB_I, zB_L, zB_R, zB_A, zB_B, reduceIte, Nat.reduceEqDiff, Nat.reduceEqDiff, false_and, and_false, true_and, and_true, ne_eq, not_false_eq_true, not_true_eq_false]; exact r5⟩, ?_⟩))
    · exact fP_A (fP_I (fP_I (fP_I fP_refl (by omega)) (by omega)) (by omega)) (by omega)
    · exact fP_A (fP_I (fP_I (fP_I fP_refl (by omega)) (by omega)) (by omega)) (by omega)
  · subst hcl
    have fin : ∀ (u : zSt), sameT τ u → fP τ u → zI u 0 54 = nI (v + 1) → zA u 20 m1 = zA u 20 m1 → wp (obd (fX12_endsOpen_b123 N (nI i0) (nI v) (nI m1) u) (fun r u => fX12_works_b2 N (m + 1) r u)) Q := by
      intro u hs hp hu54 _
      obtain ⟨s1, s2, s3, s4, s5, s6, s7⟩ := hs
      have hKz : rK (zsA (zsA u 33 v (nI i0)) 20 m1 (zA (zsA u 33 v (nI i0)) 20 m1 + 1)) K := by unfold rK; simp only [zI_I, zI_L, zI_R, zI_A, zI_B, zL_I, zL_L, zL_R, zL_A, zL_B, zA_I, zA_L, zA_R, zA_A, zA_B, zB_I, zB_L, zB_R, zB_A, zB_B, reduceIte, Nat.reduceEqDiff, Nat.reduceEqDiff, false_and, and_false, true_and, and_true, ne_eq, not_false_eq_true, not_true_eq_false]; rw [s3, s7]; exact hK
      have h21z : zI (zsA (zsA u 33 v (nI i0)) 20 m1 (zA (zsA u 33 v (nI i0)) 20 m1 + 1)) 0 21 = 0 := by simp only [zI_I, zI_L, zI_R, zI_A, zI_B, zL_I, zL_L, zL_R, zL_A, zL_B, zA_I, zA_L, zA_R, zA_A, zA_B, zB_I, zB_L, zB_R, zB_A, zB_B, reduceIte, Nat.reduceEqDiff, Nat.reduceEqDiff, false_and, and_false, true_and, and_true, ne_eq, not_false_eq_true, not_true_eq_false]; rw [s4]; exact h21
      rw [endsB hv hm1, isSignF (sF55 h21z hKz k1), obd_s, if_pos rfl, isSignF (sF50 h21z hKz (fun q => k2 ⟨rfl, q⟩)), obd_s, if_pos rfl, strayR, stS_eq h21z, obd_s, obd_s]
      have hst2 : stE (zsA (zsA u 33 v (nI i0)) 20 m1 (zA (zsA u 33 v (nI i0)) 20 m1 + 1)) = stE τ := by unfold stE; simp only [zI_I, zI_L, zI_R, zI_A, zI_B, zL_I, zL_L, zL_R, zL_A, zL_B, zA_I, zA_L, zA_R, zA_A, zA_B, zB_I, zB_L, zB_R, zB_A, zB_B, reduceIte, Nat.reduceEqDiff, Nat.reduceEqDiff, false_and, and_false, true_and, and_true, ne_eq, not_false_eq_true, not_true_eq_false]; rw [s3, s2]
      rw [hst2]
      refine wkE (by simp only [zI_I, zI_L, zI_R, zI_A, zI_B, zL_I, zL_L, zL_R, zL_A, zL_B, zA_I, zA_L, zA_R, zA_A, zA_B, zB_I, zB_L, zB_R, zB_A, zB_B, reduceIte, Nat.reduceEqDiff, Nat.reduceEqDiff, false_and, and_false, true_and, and_true, ne_eq, not_false_eq_true, not_true_eq_false]; exact hst) (fun r => hQ _ _ (Or.inl ⟨by simp only [zI_I, zI_L, zI_R, zI_A, zI_B, zL_I, zL_L, zL_R, zL_A, zL_B, zA_I, zA_L, zA_R, zA_A, zA_B, zB_I, zB_L, zB_R, zB_A, zB_B, reduceIte, Nat.reduceEqDiff, Nat.reduceEqDiff, false_and, and_false, true_and, and_true, ne_eq, not_false_eq_true, not_true_eq_false]; exact he.symm, ⟨srcR_fP r1 ?_, ⟨p, r2, by simp only [zI_I, zI_L, zI_R, zI_A, zI_B, zL_I, zL_L, zL_R, zL_A, zL_B, zA_I, zA_L, zA_R, zA_A, zA_B, zB_I, zB_L, zB_R, zB_A, zB_B, reduceIte, Nat.reduceEqDiff, Nat.reduceEqDiff, false_and, and_false, true_and, and_true, ne_eq, not_false_eq_true, not_true_eq_false]; rw [s1]; exact r3⟩, d, r4, by simp only [zI_I, zI_L, zI_R, zI_A, zI_B, zL_I, zL_L, zL_R, zL_A, zL_B, zA_I, zA_L, zA_R, zA_A, zA_B, zB_I, zB_L, zB_R, zB_A, zB_B, reduceIte, Nat.reduceEqDiff, Nat.reduceEqDiff, false_and, and_false, true_and, and_true, ne_eq, not_false_eq_true, not_true_eq_false]; rw [s6]; exact r5⟩, ?_⟩))
      · exact fP_I (fP_A (fP_A hp (by omega)) (by omega)) (by omega)
      · exact fP_I (fP_A (fP_A hp (by omega)) (by omega)) (by omega)
    rcases h33 with h33 | ⟨j, hj, h33⟩
    · rw [endsO h54 hv h30 h29, if_neg (by decide), if_neg (by decide), if_pos rfl, h33, if_pos rfl, nI_clamp (by omega), if_neg (ixN hm1 (by omega))]
      exact fin _ ⟨rfl, rfl, rfl, rfl, rfl, rfl, rfl⟩ (fP_A fP_refl (by omega)) h54 rfl
    · have hne : ¬ nI j = -1 := fun q => by have h1 := nI_pos' (n := j) (by omega); rw [q] at h1; exact absurd h1 (by decide)
      rw [endsO h54 hv h30 h29, if_neg (by decide), if_neg (by decide), if_pos rfl, h33, if_neg hne, nI_clamp (by omega), if_neg (ixN hj (by omega))]
      exact fin _ ⟨rfl, rfl, rfl, rfl, rfl, rfl, rfl⟩ (fP_A fP_refl (by omega)) h54 rfl
theorem rD_same {x : Nat → Int32} {n b : Nat} {τ u : zSt} (h : rD x n b τ) (hs : sameT τ u) (hp : fP τ u) : rD x n b u := by
  obtain ⟨r1, ⟨p, r2, r3⟩, d, r4, r5⟩ := h
  exact ⟨srcR_fP r1 hp, ⟨p, r2, hs.1.trans r3⟩, d, r4, hs.2.2.2.2.2.1.trans r5⟩
theorem rK_same {τ u : zSt} {K : Int32} (h : rK τ K) (hs : sameT τ u) : rK u K := by
  unfold rK
  rw [hs.2.2.1, hs.2.2.2.2.2.2]
  exact h
theorem stE_same {τ u : zSt} (hs : sameT τ u) : stE u = stE τ := by
  unfold stE
  rw [hs.2.2.1, hs.2.1]
/-- a part is there, and the token behind it can't stand there -/
theorem partF {x : Nat → Int32} {n N m v lo i0 w lw : Nat} {cl K : Int32} {e : Int32} {τ : zSt} {Q : Int32 → zSt → Prop} {l ops : yOps} {ns nd : Nat} (hN : 5000 ≤ N) (hr : rD x n 1200 τ) (h21 : zI τ 0 21 = 0) (hop : opn τ v cl) (hl : ∀ o ∈ l, isOne o.1 = true) (ho : ∀ o ∈ ops, 0 < rk o.1) (hst : rOps τ (v + 1) lo (l ++ ops) w lw) (h54 : zI τ 0 54 = nI w) (hw : w ≤ 1299) (h37 : zI τ 0 37 = nI (ns + l.length)) (hlw : lw ≤ nd)
    (hK : rK τ K) (hE : yEnds cl K = false) (hrk : rk K = 0) (he : e = stE τ) (he0 : e ≠ 0) (hi : i0 < 4200) (hQ : ∀ r u, FO x n e v cl τ u → Q r u) :
    wp (fX12_works_b2 N (m + 2) (nI i0) τ) Q := by
  have hle := rOps_le hst
  have hlen : (l ++ ops).length = l.length + ops.length := List.length_append
  obtain ⟨w', rfl⟩ : ∃ g, w = g + 1 := ⟨w - 1, by omega⟩
  rw [wkX h21 h54 (by omega) hi]
  obtain ⟨i1, u, w2, l2, b1, b2, b3, b4, b5, b6, b7, b8, b9, -, -⟩ := popO (N := N) (k2 := fX12_works_b2 N (m + 1)) l fZ i0 τ (w' + 1) lw nd ns (N - l.length) hl hst h54 (by omega) h37 hi hlw
  rw [show N - l.length + l.length = N by omega] at b1
  rw [b1]
  have hle2 := rOps_le b3
  obtain ⟨w2', rfl⟩ : ∃ g, w2 = g + 1 := ⟨w2 - 1, by omega⟩
  have u21 : zI u 0 21 = 0 := b8.2.2.2.1.trans h21
  have huK := rK_same hK b8
  have hopu : opn u v cl := opn_fE hop b9 (by omega)
  have h4 : ¬ zA u 29 w2' = 4 := by
    cases ops with
    | nil => obtain ⟨q1, -⟩ := b3; rw [show w2' = v by omega]; exact (opn_5 hopu).2
    | cons o r =>
      obtain ⟨q1, q2, q3, q4, q5, q6, q7, q8, q9, q10, q11, q12, q12b, q13⟩ := b3
      have hp := ho o (List.mem_cons_self ..)
      rw [if_neg (fun q => by rw [isOne_rk q] at hp; omega)] at q13
      rw [show w2' = q1 by omega, q13.1]
      decide
  obtain ⟨f, hf⟩ : ∃ g, N - l.length = g + 1 := ⟨N - l.length - 1, by omega⟩
  rw [hf, fX12_works_b28]
  simp (disch := omega) only [b5, nIneg, nI_clamp, leF, or_false, false_or, or_self, if_false, reduceIte, nI_1, nI_pred, bnd_e, obd_s, h4]
  obtain ⟨j1, z, w3, l3, c1, c2, c3, c4, c5, c6, c7, c8, c9, -, -⟩ := secR (N := N) (k := 0) (by omega) (by omega) (fun _ => trivial) ops fZ i1 u (w2' + 1) l2 nd N ho b3 b5 (by omega) (by omega) (by rw [Nat.add_sub_cancel]; exact (opn_5 hopu).1) b2 b4 (by omega)
  have hbr : wp (fX12_works_b119 N (fX12_works_b2 N (m + 1)) (nI i1) u) Q := by
    unfold fX12_works_b119 fX12_second
    rw [show (-1 : Int32) = nI 0 - 1 from rfl, c1, obd_s]
    have hj : (jnA 0 ops fZ).1 = [] := by
      clear c1 c3 c4 c5 c6 c7 c8 c9
      have : ∀ (ops : yOps) (t : fT), (jnA 0 ops t).1 = [] := by
        intro ops
        induction ops with
        | nil => intro t; rfl
        | cons o r ih => intro t; rw [jnA, if_neg (by omega)]; exact ih _
      exact this ops fZ
    rw [hj] at c3
    obtain ⟨q1, -⟩ := c3
    subst q1
    refine endF (rD_same hr (sameT_trans b8 c8) (fP_trans (fE_P b9) (fE_P c9))) (c8.2.2.2.1.trans u21) c5 (by omega) (opn_fE hopu c9 (by omega)) (rK_same huK c8) hE (by rw [stE_same c8, stE_same b8]; exact he) he0 c2 (fun r y hy => hQ r y (FO_tr hy (fP_trans (fE_P b9) (fE_P c9)) ?_))
    rw [c9.2.1 29 v (by omega) (by omega), b9.2.1 29 v (by omega) (by omega)]
  by_cases hk4 : zI u 0 19 = 4
  · have hsg : sgOf (zL u 0 20) = K := by have := huK.1; rw [hk4] at this; exact this
    have hne : sgOf (zL u 0 20) ≠ -1 := by
      rcases huK.2 with q | q | q | q | q | q
      · rw [hk4] at q; exact absurd q (by decide)
      · rw [hk4] at q; exact absurd q (by decide)
      · rw [hk4] at q; exact absurd q (by decide)
      · rw [hk4] at q; exact absurd q.1 (by decide)
      · exact q.2
      · rw [hk4] at q; exact absurd q (by decide)
    rw [if_pos hk4, levelR hne, obd_s, hsg, hrk, if_pos (by decide)]
    exact hbr
  · rw [if_neg hk4]
    exact hbr
/-- a part is due, but a token that is none has been come to -/
theorem badF {x : Nat → Int32} {n N m v w : Nat} {cl : Int32} {e : Int32} {τ : zSt} {Q : Int32 → zSt → Prop} (hr : rD x n 1200 τ) (h54 : zI τ 0 54 = nI (w + 1)) (hw : w ≤ 1299) {K : Int32} (h21 : zI τ 0 21 = 0) (hK : rK τ K) (k1 : K ≠ 22 ∧ K ≠ 25 ∧ K ≠ 26 ∧ K ≠ 41 ∧ K ≠ 48 ∧ K ≠ 49 ∧ K ≠ 40) (he : e = stE τ) (he0 : e ≠ 0) (hQ : ∀ r u, FO x n e v cl τ u → Q r u) : wp (fX12_works_b2 N (m + 2) (-1) τ) Q := by
  obtain ⟨r1, ⟨p, r2, r3⟩, d, r4, r5⟩ := hr
  obtain ⟨q1, q2, q3, q4, q5, q6, q7⟩ := k1
  rw [wkN h21 h54 (by omega)]
  unfold fX12_part
  have hk2 : ¬ zI τ 0 19 = 2 := fun q => q4 ((kd41 hK.1 hK.2).mp q)
  have hk1 : ¬ zI τ 0 19 = 1 := fun q => q7 ((kd40 hK.1 hK.2).mp q)
  simp only [bnd_e, isSignF (sF22 h21 hK q1), obd_s, isSignF (sF25 h21 hK q2), isSignF (sF26 h21 hK q3), if_true, hk2, if_false, isWordF (wF48 h21 hK q5), isSignF (sF49 h21 hK q6), hk1, strayR, stS_eq h21]
  refine wkE (by simp only [zI_I, zI_L, zI_R, zI_A, zI_B, zL_I, zL_L, zL_R, zL_A, zL_B, zA_I, zA_L, zA_R, zA_A, zA_B, zB_I, zB_L, zB_R, zB_A, zB_B, reduceIte, Nat.reduceEqDiff, Nat.reduceEqDiff, false_and, and_false, true_and, and_true, ne_eq, not_false_eq_true, not_true_eq_false]; exact he ▸ he0) (fun r => hQ _ _ (Or.inl ⟨by simp only [zI_I, zI_L, zI_R, zI_A, zI_B, zL_I, zL_L, zL_R, zL_A, zL_B, zA_I, zA_L, zA_R, zA_A, zA_B, zB_I, zB_L, zB_R, zB_A, zB_B, reduceIte, Nat.reduceEqDiff, Nat.reduceEqDiff, false_and, and_false, true_and, and_true, ne_eq, not_false_eq_true, not_true_eq_false]; exact he.symm, ⟨srcR_I r1 _ _ (by omega), ⟨p, r2, by simp only [zI_I, zI_L, zI_R, zI_A, zI_B, zL_I, zL_L, zL_R, zL_A, zL_B, zA_I, zA_L, zA_R, zA_A, zA_B, zB_I, zB_L, zB_R, zB_A, zB_B, reduceIte, Nat.reduceEqDiff, Nat.reduceEqDiff, false_and, and_false, true_and, and_true, ne_eq, not_false_eq_true, not_true_eq_false]; exact r3⟩, d, r4, by simp only [zI_I, zI_L, zI_R, zI_A, zI_B, zL_I, zL_L, zL_R, zL_A, zL_B, zA_I, zA_L, zA_R, zA_A, zA_B, zB_I, zB_L, zB_R, zB_A, zB_B, reduceIte, Nat.reduceEqDiff, Nat.reduceEqDiff, false_and, and_false, true_and, and_true, ne_eq, not_false_eq_true, not_true_eq_false]; exact r5⟩, fP_I fP_refl (by omega)⟩))
