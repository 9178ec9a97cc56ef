/-! THE REFERENCE'S READER: all parameters of a FUNCTION -/
def yHP (x : Nat → Int32) (n f : Nat) (L : lE) (tk : yTok) : Except Int32 (lE × yTok) := if L.2.2 = 0 then (if tk.2.2.1 = 50 then .ok (L, tk) else yPars x n f L tk) else (if tk.2.2.1 = 55 then xb (cm x n tk) (fun t3 => yPars x n f L t3) else .ok (L, tk))
theorem yPars_H {x : Nat → Int32} {n f : Nat} {L : lE} {tk : yTok} : yPars x n (f + 1) L tk = xb (yPar x n L tk) (fun v => yHP x n f (lAdd L v.1 0) v.2) := by
  have hz : ∀ (w : Int64) (t : yTok), yHP x n f (lAdd L w 0) t = if t.2.2.1 = 55 then xb (cm x n t) (fun t3 => yPars x n f (lAdd L w 0) t3) else .ok (lAdd L w 0, t) := by
    intro w t
    unfold yHP
    exact if_neg (Nat.succ_ne_zero _)
  rw [yPars]
  unfold yPar
  rw [xb_as]
  cases need 42 tk with
  | error e => rfl
  | ok y =>
    rw [xb_k, xb_k, xb_as]
    cases cm x n tk with
    | error e => rfl
    | ok t1 =>
      rw [xb_k, xb_k, xb_as]
      cases need 40 t1 with
      | error e => rfl
      | ok y2 =>
        rw [xb_k, xb_k]
        by_cases h1 : (lkN L.1 t1.2.2.2 L.2.2).isSome = true
        · rw [if_pos h1, if_pos h1]; rfl
        · rw [if_neg h1, if_neg h1]
          by_cases h2 : 8 ≤ L.2.2
          · rw [if_pos h2, if_pos h2]; rfl
          · rw [if_neg h2, if_neg h2, xb_as]
            cases cm x n t1 with
            | error e => rfl
            | ok t2 =>
              rw [xb_k, xb_k, xb_k, hz]
theorem parD {N : Nat} {u : zSt} (h : zI u 0 21 ≠ 0) : fX12_parameter N u = some ((), u) := by
  unfold fX12_parameter
  rw [isWordF (wdB_d h), obd_s, if_pos rfl, strayD h, obd_s]
/-- parameters in which something is wrong -/
def PE (x : Nat → Int32) (n fn : Nat) (e : Int32) (τ u : zSt) : Prop := zI u 0 21 = e ∧ rD x n 1200 u ∧ fQ fn τ u ∧ ∃ l, l ≤ 8 ∧ zI u 0 30 = nI l
theorem b84E {x : Nat → Int32} {n fn N m : Nat} {e : Int32} {τ u : zSt} {Q : Unit → zSt → Prop} (h : PE x n fn e τ u) (he : e ≠ 0) (hK : ∀ u, PE x n fn e τ u → wp (fX12_tellFunction_b125 N u) Q) : wp (fX12_tellFunction_b84 N (m + 1) u) Q := by
  rw [fX12_tellFunction_b84, isWellF (by rw [h.1]; exact he), obd_s, if_pos rfl]
  exact hK u h
theorem parsLR {x : Nat → Int32} {n tc : Nat} {G : gE} {w0 : Int64} {N : Nat} {c ns nd : Nat} {Q : Unit → zSt → Prop} (hn : n ≤ 512) (hN : 5000 ≤ N) (hG : G.2.2.2.2 < 1400) (hnd : nd ≤ 1100) : ∀ (m f : Nat) (L : lE) (tk : yTok) (τ : zSt), PR x n tc G w0 L tk c ns nd τ → tkO n tk → L.2.2 ≤ 8 → n + 5 ≤ m + tk.2.1 →
    xb (yHP x n f L tk) (fun u => xb (need 50 u.2) (fun _ => .ok u)) ≠ .error 0 →
    (∀ L' tk' u, xb (yHP x n f L tk) (fun u => xb (need 50 u.2) (fun _ => .ok u)) = .ok (L', tk') → PR x n tc G w0 L' tk' c ns nd u → fQ G.2.2.2.2 τ u → tkO n tk' → L'.2.2 ≤ 8 → tk'.2.2.1 = 50 → tk.2.1 ≤ tk'.2.1 → wp (fX12_tellFunction_b125 N u) Q) →
    (∀ e u, xb (yHP x n f L tk) (fun u => xb (need 50 u.2) (fun _ => .ok u)) = .error e → e ≠ 0 → PE x n G.2.2.2.2 e τ u → wp (fX12_tellFunction_b125 N u) Q) → wp (fX12_tellFunction_b84 N m τ) Q := by
  intro m
  induction m with
  | zero => intro f L tk τ _ htk _ hm; have := htk.1; have := htk.2.1; omega
  | succ m ih =>
    intro f L tk τ hV htk hL hm h0 hok her
    have hpn : tk.2.1 ≤ n := by have := htk.1; have := htk.2.1; omega
    have hK := rT_K hV.2.1
    have hD := PR_rD hV htk.2.1 hnd
    rw [fX12_tellFunction_b84, isWellT hV.2.2.1, obd_s, if_neg (by decide)]
    by_cases h50 : tk.2.2.1 = 50
    · rw [isSignT ((sB50 hV.2.2.1 hK).mpr h50), obd_s, if_neg (by decide)]
      have hyh : yHP x n f L tk = .ok (L, tk) := by
        unfold yHP
        by_cases hz : L.2.2 = 0
        · rw [if_pos hz, if_pos h50]
        · rw [if_neg hz, if_neg (by rw [h50]; decide)]
      exact hok L tk τ (by rw [hyh, xb_k]; unfold need; rw [if_pos h50]; rfl) hV fQ_refl htk hL h50 (Nat.le_refl _)
    · rw [isSignF (sF50 hV.2.2.1 hK h50), obd_s, if_pos rfl, hV.2.2.2.2.2.2.2.2.2.1, nI_clamp (by omega), if_neg (ixN hG (by omega)), hV.2.2.2.2.2.2.2.2.2.2.2.2.2.1]
      -- a parameter is due at tk2
      have one : ∀ (tk2 : yTok) (u : zSt), PR x n tc G w0 L tk2 c ns nd u → tkO n tk2 → fQ G.2.2.2.2 τ u → tk.2.1 ≤ tk2.2.1 → yHP x n f L tk = yPars x n f L tk2 → wp (fX12_tellFunction_b118 N (fX12_tellFunction_b84 N m) u) Q := by
        intro tk2 u hVu htk2 hfu hpl heq
        rw [heq] at h0 hok her
        cases f with
        | zero => exact absurd rfl h0
        | succ f =>
          rw [yPars_H] at h0 hok her
          unfold fX12_tellFunction_b118
          refine wp_obd (wp_mono (parR hn hN hG hVu htk2 hnd hL) (fun _ z hz => ?_))
          cases hy : yPar x n L tk2 with
          | error e =>
            rw [hy, xb_e, xb_e] at her
            obtain ⟨he0, hc, hr, hq, l, hl1, hl2⟩ := hz.1 e hy
            obtain ⟨m, rfl⟩ : ∃ g, m = g + 2 := ⟨m - 2, by omega⟩
            have hfz := fQ_trans hfu hq
            rcases hc with hc | hpd
            · exact b84E (x := x) (n := n) ⟨hc, hr, hfz, l, hl1, hl2⟩ he0 (fun u hu => her e u rfl he0 hu)
            · -- the token behind it is none
              have hKz := PD_K hpd
              have z35 : zI z 0 35 = nI G.2.2.2.2 := (hq.1 35 (by omega)).trans hVu.2.2.2.2.2.2.2.2.2.1
              rw [fX12_tellFunction_b84, isWellT hpd.1, obd_s, if_neg (by decide), isSignF (sF50 hpd.1 hKz (by decide)), obd_s, if_pos rfl, z35, nI_clamp (by omega), if_neg (ixN hG (by omega))]
              have hpe : PE x n G.2.2.2.2 e τ (zsI z 0 21 e) := ⟨by rw [zI_I, if_pos ⟨rfl, rfl⟩], rD_I hr (by omega), ⟨fun j hj => by rw [zI_I, if_neg (by omega)]; exact hfz.1 j hj, hfz.2.1, hfz.2.2⟩, l, hl1, by rw [zI_I, if_neg (by omega)]; exact hl2⟩
              have h21 : zI (zsI z 0 21 e) 0 21 ≠ 0 := by rw [hpe.1]; exact he0
              by_cases hmz : zA z 10 G.2.2.2.2 ≤ 0
              · rw [if_pos hmz]
                unfold fX12_tellFunction_b118 fX12_parameter
                rw [isWordF (wF42 hpd.1 hKz (by decide)), obd_s, if_pos rfl, strayR, stS_eq hpd.1, stE_P hpd, obd_s, obd_s]
                exact b84E hpe he0 (fun u hu => her e u rfl he0 hu)
              · rw [if_neg hmz, takesF (sF55 hpd.1 hKz (by decide)), stS_eq hpd.1, stE_P hpd, obd_s]
                unfold fX12_tellFunction_b118
                rw [parD h21, obd_s]
                exact b84E hpe he0 (fun u hu => her e u rfl he0 hu)
          | ok v =>
            obtain ⟨w, t2⟩ := v
            rw [hy, xb_k] at h0 hok her
            obtain ⟨hVz, hfz, htz, hplz⟩ := hz.2 w t2 hy
            have hL8 : L.2.2 < 8 := by
              by_cases q : 8 ≤ L.2.2
              · exfalso
                have : stk (yPar x n L tk2) (fun _ => False) := by
                  unfold yPar
                  refine stk_xb (fun _ _ => stk_xb (fun t1 _ => stk_xb (fun _ _ => ?_)))
                  by_cases a1 : (lkN L.1 t1.2.2.2 L.2.2).isSome = true
                  · rw [if_pos a1]; exact stk_er
                  · rw [if_neg a1, if_pos q]; exact stk_er
                exact this _ hy
              · omega
            have hft := fQ_trans hfu hfz
            refine ih f (lAdd L w 0) t2 z hVz htz (by show L.2.2 + 1 ≤ 8; omega) (by omega) h0 ?_ ?_
            · intro L' tk' u' hres hV' hf' ht' hL' hk' hp'
              exact hok L' tk' u' hres hV' (fQ_trans hft hf') ht' hL' hk' (by omega)
            · intro e u' hres he0 hpe
              exact her e u' hres he0 ⟨hpe.1, hpe.2.1, fQ_trans hft hpe.2.2.1, hpe.2.2.2⟩
      by_cases hz : L.2.2 = 0
      · rw [hz, if_pos (show nI 0 ≤ 0 by decide)]
        exact one tk τ hV htk fQ_refl (Nat.le_refl _) (by unfold yHP; rw [if_pos hz, if_neg h50])
      · rw [if_neg (nI_nle (by omega) (by omega))]
        by_cases h55 : tk.2.2.1 = 55
        · have hlt := tk_ne htk h55 (by decide)
          rw [takesR_yes ((sB55 hV.2.2.1 hK).mpr h55), nx_eq hV.1.1 hV.2.1.1 htk.2.1 (by omega), obd_s]
          have hyh : yHP x n f L tk = xb (cm x n tk) (fun t3 => yPars x n f L t3) := by unfold yHP; rw [if_neg hz, if_pos h55]
          cases hcm : cm x n tk with
          | error e =>
            rw [hyh, hcm, xb_e, xb_e] at her
            have he0 := cm_ne hn hcm htk.2.1
            have hpd := PD_nx (τ := τ) hcm hV.2.2.1
            obtain ⟨m, rfl⟩ : ∃ g, m = g + 1 := ⟨m - 1, by omega⟩
            unfold fX12_tellFunction_b118 fX12_parameter
            rw [isWordF (wF42 hpd.1 (PD_K hpd) (by decide)), obd_s, if_pos rfl, strayR, stS_eq hpd.1, stE_P hpd, obd_s, obd_s]
            exact b84E (x := x) (n := n) (fn := G.2.2.2.2) (τ := τ) ⟨by rw [zI_I, if_pos ⟨rfl, rfl⟩], rD_le (rD_I (rD_nx hD htk.2.1) (by omega)) (by omega), ⟨fun j hj => by rw [zI_I, if_neg (by omega), nxS_I (by omega)], fun a i _ _ => nxS_A, fun a i _ => nxS_B⟩, L.2.2, hL, by rw [zI_I, if_neg (by omega), nxS_I (by omega)]; exact hV.2.2.2.2.2.2.1⟩ he0 (fun u hu => her e u rfl he0 hu)
          | ok t3 =>
            have ht3 := sat_get (cm_ok (x := x) (n := n) (t := tk) (by omega) htk.2.1) hcm
            have hh3 := ht3.2
            exact one t3 _ (PR_n hcm hV) ht3.1 (fQ_nx fQ_refl) (by omega) (by rw [hyh, hcm, xb_k])
        · have hyh : yHP x n f L tk = .ok (L, tk) := by unfold yHP; rw [if_neg hz, if_neg h55]
          have he0 : (2 : Int32) + 16 * nI tk.2.1 ≠ 0 := er_ne erK2 (by omega)
          have hne : need 50 tk = .error (2 + 16 * nI tk.2.1) := by unfold need; rw [if_neg h50]; rfl
          rw [hyh, xb_k] at her
          rw [takesF (sF55 hV.2.2.1 hK h55), stS_eq hV.2.2.1, stE_T hV.2.1 htk.2.2.2, obd_s]
          unfold fX12_tellFunction_b118
          rw [parD (by rw [zI_I, if_pos ⟨rfl, rfl⟩]; exact he0), obd_s]
          obtain ⟨m, rfl⟩ : ∃ g, m = g + 1 := ⟨m - 1, by omega⟩
          exact b84E (x := x) (n := n) (fn := G.2.2.2.2) (τ := τ) ⟨by rw [zI_I, if_pos ⟨rfl, rfl⟩], rD_le (rD_I hD (by omega)) (by omega), ⟨fun j hj => by rw [zI_I, if_neg (by omega)], fun a i _ _ => rfl, fun a i _ => rfl⟩, L.2.2, hL, by rw [zI_I, if_neg (by omega)]; exact hV.2.2.2.2.2.2.1⟩ he0 (fun u hu => her _ u (by show xb (need 50 tk) _ = _; rw [hne]; rfl) he0 hu)
