/-! THE REFERENCE'S READER: an S that begins with a NAME -/
theorem st40 {N : Nat} {τ : zSt} (h21 : zI τ 0 21 = 0) (hK : rK τ 40) : fX12_statement N τ = obd (fX12_assignment N τ) (fun r u => some (r, u)) := by
  unfold fX12_statement
  rw [isWellT h21, obd_s, if_neg (by decide), bnd_e, isSignF (sF51 h21 hK (by decide)), obd_s, if_pos rfl, isWordF (wF43 h21 hK (by decide)), obd_s, if_pos rfl, isWordF (wF45 h21 hK (by decide)), obd_s, if_pos rfl, isWordF (wF46 h21 hK (by decide)), obd_s, if_pos rfl, isWordF (wF47 h21 hK (by decide)), obd_s, if_pos rfl, isSignF (sF56 h21 hK (by decide)), obd_s, if_pos rfl, isWellT h21, obd_s, if_neg (by decide), if_pos ((kd40 hK.1 hK.2).mpr rfl)]
theorem wp_ret {α : Type} {a : Option (α × zSt)} {Q : α → zSt → Prop} (h : wp a Q) : wp (obd a (fun r u => some (r, u))) Q := by
  obtain ⟨r, u, e, h⟩ := h
  rw [e]
  exact ⟨r, u, rfl, h⟩
/-- a call as S: from its opening bracket on -/
theorem callAR {x : Nat → Int32} {n tc : Nat} {G : gE} {L : lE} {N : Nat} {tk : yTok} {c ns nd g p : Nat} {τ : zSt} {Q : Int32 → zSt → Prop} (hn : n ≤ 512) (hN : 5000 ≤ N) (hG : G.2.2.2.2 ≤ 1400) (hLn : L.2.2 ≤ 1400) (hV : SV x n tc G L tk c ns nd τ) (hB : BD n tc tk c ns nd 0) (hk : tk.2.2.1 = 49) (hg : g < G.2.2.2.2) (hp : p ≤ 4096) (h0 : yCallQ x n (yE x n tc G L 42) G g p ns tk c ≠ .error 0)
    (hok : ∀ t tk' c' i nd' u, yCallQ x n (yE x n tc G L 42) G g p ns tk c = .ok (t, tk', c') → SV x n tc G L tk' c' ns nd' u → BD n tc tk' c' ns nd' 0 → fE nd 0 τ u → nd ≤ nd' → rep u t nd nd' (nI i) → i < 4200 → tk'.2.2.1 = 50 → tk.2.1 < tk'.2.1 → Q (nI i) (nxS x n tk'.1 u))
    (her : ∀ e r u, yCallQ x n (yE x n tc G L 42) G g p ns tk c = .error e → e ≠ 0 → FX x n e τ u → Q r u) : wp (fX12_callAlone N (nI p) (nI g) τ) Q := by
  have hBl := BD_le hB hn
  obtain ⟨b1, b2, b3, b4, b5, b6⟩ := hB
  unfold fX12_callAlone
  rw [bnd_e]
  have hV1 := SV_RV hV
  have hE1 : fE nd 0 τ (zsI τ 0 54 (0 : Int32)) := fE_I fE_refl (by omega)
  revert hV1 hE1
  generalize zsI τ 0 54 (0 : Int32) = s1
  intro hV1 hE1
  have hid : ∀ a : Option (Int32 × zSt), obd a (fun r u => some (r, u)) = a := by
    intro a
    cases a with
    | none => rfl
    | some q => rfl
  refine callR (m := N) (w := 0) (Kc := fun r u => if r < 0 then obd (fX12_works N u) (fun r u => some (r, u)) else some (r, u)) hn hN (levR hn hN hG hLn 42) (yE_rW 42) ?_ ?_ hV1 ⟨b1, b2, b3, b4, b5, by omega⟩ (by omega) hk hg hG hp h0 ?_ ?_
  · intro u
    show (if (-1 : Int32) < 0 then obd (fX12_works N u) (fun r u => some (r, u)) else some (-1, u)) = _
    rw [if_pos (by decide), hid]
    rfl
  · intro d u hd hcase hw
    show wp (if nI d < 0 then obd (fX12_works N u) (fun r u => some (r, u)) else some (nI d, u)) Q
    rw [if_neg (nI_pos (by omega))]
    obtain ⟨N', hN'⟩ : ∃ g, N = g + 1 := ⟨N - 1, by omega⟩
    have hwk : fX12_works_b2 N (N' + 1) (nI d) u = some (nI d, u) := by
      rw [fX12_works_b2]
      by_cases hf : zI u 0 21 = 0
      · rw [isWellT hf, obd_s, if_neg (by decide)]
        rcases hcase with q | q
        · exact (q hf).elim
        · rw [q, if_pos (by decide)]
          unfold fX12_works_b135
          rw [if_pos (nI_pos' (by omega))]
      · rw [isWellF hf, obd_s, if_pos rfl]
        unfold fX12_works_b135
        rw [if_pos (nI_pos' (by omega))]
    rw [← hN'] at hwk
    rw [hwk] at hw
    exact hw
  · intro t tk' c' i nd' m' u hres hVu hBu hEu hndu hrep h21i hi h50 hpl hm'
    have hpn : tk'.2.1 ≤ n := by have := hBu.1.1; have := hBu.1.2.1; omega
    obtain ⟨m', rfl⟩ : ∃ g, m' = g + 1 := ⟨m' - 1, by omega⟩
    rw [fX12_works_b2, isWellT (by rw [nxS_I (by omega)]; exact hVu.2.2.1), obd_s, if_neg (by decide), if_pos (show zI (nxS x n tk'.1 u) 0 54 ≤ 0 by rw [nxS_I (by omega), hVu.2.2.2.2.2.2]; decide)]
    unfold fX12_works_b135
    rw [if_pos (nI_pos' (by omega))]
    exact wp_s (hok t tk' c' i nd' u hres (RV_SV hVu) ⟨hBu.1, hBu.2.1, hBu.2.2.1, hBu.2.2.2.1, hBu.2.2.2.2.1, by omega⟩ (fE_trans hE1 hEu (Nat.le_refl _) (Nat.le_refl _)) hndu hrep hi h50 hpl)
  · intro e r u hres he0 hfx
    exact her e r u hres he0 ⟨hfx.1, hfx.2.1, fP_trans (fE_P hE1) hfx.2.2⟩
