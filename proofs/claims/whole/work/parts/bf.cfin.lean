/-! THE CLASS: the end of a text -/
section
variable {ln : Nat → Nat} {N M q cc n p : Nat} {σ : zSt}
def flC (σ : zSt) (e : Int32) : zSt := zsI (zsI σ 1 7 e) 1 3 (-1)
theorem failL {k a : Int32} (h : zI σ 1 7 = 0) : fX7_fail ln N M k a σ = some ((), flC σ (k + 16 * a)) := by
  unfold fX7_fail fX7_fail_b17 flC
  rw [if_pos h, bnd_e, bnd_e]
theorem flC_I {e : Int32} {o k : Nat} (h : o ≠ 1) : zI (flC σ e) o k = zI σ o k := by
  unfold flC
  rw [zI_I, if_neg (by omega), zI_I, if_neg (by omega)]
theorem flC_7 {e : Int32} : zI (flC σ e) 1 7 = e := by
  unfold flC
  rw [zI_I, if_neg (by omega), zI_I, if_pos ⟨rfl, rfl⟩]
theorem fin52N (hL : LN ln q cc) (hR : RF q σ) (h : zI σ 1 7 ≠ 0) : fX6_finish_b52 ln N M σ = some ((), zsI σ q 4 0) := by
  unfold fX6_finish_b52 fX6_finish_b71
  rw [rbP hL.1 hR.2.2.1, if_neg h, if_neg (by decide), bnd_e]
theorem finL (hL : LN ln q cc) (h7 : zI σ 1 7 = 0) (hk : zI σ 1 3 = 58) (hR : RF q σ) (h1 : zI σ 1 1 = nI n) (hn : n ≤ 4096) (hp : zI σ (q + 4) 1 = nI p) (hp2 : p < 2 ^ 30) (hcc : ln (q + 36) ≤ 4096) :
    (0 ≤ zI σ q 3 → p ≤ ln (q + 36) → fX6_readAll_b162 ln N M σ = some (0, zsI σ q 4 1)) ∧ (0 ≤ zI σ q 3 → ln (q + 36) < p → fX6_readAll_b162 ln N M σ = some (10 + 16 * nI n, zsI (flC σ (10 + 16 * nI n)) q 4 0)) ∧ (¬ 0 ≤ zI σ q 3 → fX6_readAll_b162 ln N M σ = some (7 + 16 * nI n, zsI (flC σ (7 + 16 * nI n)) q 4 0)) := by
  have hq := hL.1
  have hneed : fX7_need ln N M 58 σ = some ((), σ) := by
    unfold fX7_need
    rw [hk, if_pos rfl]
  have e7 : (7 : Int32) + 16 * nI n ≠ 0 := er_ne ⟨7, by omega, by omega, rfl⟩ hn
  have e10 : (10 : Int32) + 16 * nI n ≠ 0 := er_ne ⟨10, by omega, by omega, rfl⟩ hn
  unfold fX6_readAll_b162 fX6_finish
  rw [hneed, obd_s, rbP hL.1 hR.2.2.1]
  refine ⟨fun a b => ?_, fun a b => ?_, fun a => ?_⟩
  · rw [if_pos a]
    unfold fX6_finish_b26 fX0_fits
    rw [rbC hL.1 hR.2.2.2.2, hp, show q + 4 + 32 = q + 36 by omega, if_neg (fun w => by rw [nI_ltI (by omega) (by omega)] at w; omega), obd_s, if_neg (by decide)]
    unfold fX6_finish_b52 fX6_finish_b71
    rw [rbP hL.1 hR.2.2.1, if_pos h7, if_neg (by decide), bnd_e, obd_s, zI_I, if_neg (by omega), h7]
  · rw [if_pos a]
    unfold fX6_finish_b26 fX0_fits
    rw [rbC hL.1 hR.2.2.2.2, hp, show q + 4 + 32 = q + 36 by omega, if_pos ((nI_ltI (by omega) (by omega)).mpr b), obd_s, if_pos rfl, failL h7, h1, obd_s, fin52N hL (show RF q (flC σ _) from hR) (by rw [flC_7]; exact e10), obd_s, zI_I, if_neg (by omega), flC_7]
  · rw [if_neg a, failL h7, h1, obd_s]
    unfold fX6_finish_b26 fX0_fits
    have hR2 : RF q (flC σ (7 + 16 * nI n)) := hR
    rw [rbC hL.1 hR2.2.2.2.2]
    by_cases c : nI (ln (q + 4 + 32)) < zI (flC σ (7 + 16 * nI n)) (q + 4) 1
    · have hk7 : zI (flC σ (7 + 16 * nI n)) 1 3 = -1 := by unfold flC; rw [zI_I, if_pos ⟨rfl, rfl⟩]
      rw [if_pos c, obd_s, if_pos rfl, failC_not _ _ (by rw [flC_7]; exact e7), kind_same hk7, obd_s, fin52N hL hR2 (by rw [flC_7]; exact e7), obd_s, zI_I, if_neg (by omega), flC_7]
    · rw [if_neg c, obd_s, if_neg (by decide), fin52N hL hR2 (by rw [flC_7]; exact e7), obd_s, zI_I, if_neg (by omega), flC_7]
end
