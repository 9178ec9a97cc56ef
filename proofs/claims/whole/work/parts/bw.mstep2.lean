/-! THE MACHINE: items, reckoning, jumps -/
theorem cmp_eq {σ τ : zSt} (P : Prop) [Decidable P] (u v : Int32) (hu : (if u = 0 then (0 : Int32) else 1) = u) (hv : (if v = 0 then (0 : Int32) else 1) = v) : ∃ w, obd (if P then some (u, σ) else some (v, σ)) (fun r s => if r = 0 then some ((0 : Int32), s) else some ((1 : Int32), s)) = some (w, σ) ∧ (if P then some (u, τ) else some (v, τ)) = some (w, τ) := by
  by_cases c : P
  · rw [if_pos c, if_pos c, obd_s]
    refine ⟨u, ?_, rfl⟩
    by_cases e : u = 0
    · rw [if_pos e, e]
    · rw [if_neg e]; rw [if_neg e] at hu; rw [← hu]
  · rw [if_neg c, if_neg c, obd_s]
    refine ⟨v, ?_, rfl⟩
    by_cases e : v = 0
    · rw [if_pos e, e]
    · rw [if_neg e]; rw [if_neg e] at hv; rw [← hv]
theorem bin_eq {ln : Nat → Nat} {N M o : Nat} {a b : Int32} {σ τ : zSt} (ho : (10 ≤ o ∧ o ≤ 23) ∨ o = 27 ∨ o = 28) (hz : b = 0 → o < 27) : ∃ v, fX11_ofTwo ln N M (nI o) a b σ = some (v, σ) ∧ fX12_binary_ N (nI o) a b τ = some (v, τ) := by
  have h31 : (b &&& 31) &&& 31 = b &&& 31 := by rw [Int32.and_assoc]; rfl
  have hcases : o = 10 ∨ o = 11 ∨ o = 12 ∨ o = 13 ∨ o = 14 ∨ o = 15 ∨ o = 16 ∨ o = 17 ∨ o = 18 ∨ o = 19 ∨ o = 20 ∨ o = 21 ∨ o = 22 ∨ o = 23 ∨ o = 27 ∨ o = 28 := by omega
  unfold fX11_ofTwo fX12_binary_ fX11_compares
  rcases hcases with e | e | e | e | e | e | e | e | e | e | e | e | e | e | e | e
  · subst e; exact ⟨_, rfl, rfl⟩
  · subst e; exact ⟨_, rfl, rfl⟩
  · subst e; exact ⟨_, rfl, rfl⟩
  · subst e; exact cmp_eq (a = b) 1 0 (by decide) (by decide)
  · subst e; exact cmp_eq (a = b) 0 1 (by decide) (by decide)
  · subst e; exact cmp_eq (b ≤ a) 0 1 (by decide) (by decide)
  · subst e; exact cmp_eq (b < a) 0 1 (by decide) (by decide)
  · subst e; exact cmp_eq (a ≤ b) 0 1 (by decide) (by decide)
  · subst e; exact cmp_eq (a < b) 0 1 (by decide) (by decide)
  · subst e; exact ⟨_, rfl, by rw [h31]; rfl⟩
  · subst e; exact ⟨_, rfl, by rw [h31]; rfl⟩
  · subst e; exact ⟨_, rfl, rfl⟩
  · subst e; exact ⟨_, rfl, rfl⟩
  · subst e; exact ⟨_, rfl, rfl⟩
  · subst e
    have c : b ≠ 0 := fun c => absurd (hz c) (by omega)
    refine ⟨a / b, ?_, ?_⟩
    · show (if b = 0 then _ else if b = 0 then _ else _) = _
      rw [if_neg c, if_neg c]
    · show (if b = 0 then _ else _) = _
      rw [if_neg c]
  · subst e
    have c : b ≠ 0 := fun c => absurd (hz c) (by omega)
    refine ⟨a - a / b * b, ?_, ?_⟩
    · show (if b = 0 then _ else if b = 0 then _ else _) = _
      rw [if_neg c, if_neg c]
    · show (if b = 0 then _ else _) = _
      rw [if_neg c]
theorem un_eq {ln : Nat → Nat} {N M : Nat} {o a : Int32} {σ τ : zSt} : ∃ v, fX11_ofOne ln N M o a σ = some (v, σ) ∧ fX12_unary N o a τ = some (v, τ) := by
  unfold fX11_ofOne fX12_unary
  by_cases c1 : o = 24
  · rw [if_pos c1, if_pos c1]; exact ⟨_, rfl, rfl⟩
  · rw [if_neg c1, if_neg c1]
    by_cases c2 : o = 25
    · rw [if_pos c2, if_pos c2]
      by_cases c3 : a = 0
      · rw [if_pos c3, if_pos c3]; exact ⟨_, rfl, rfl⟩
      · rw [if_neg c3, if_neg c3]; exact ⟨_, rfl, rfl⟩
    · rw [if_neg c2, if_neg c2]; exact ⟨_, rfl, rfl⟩
theorem div_eq {ln : Nat → Nat} {N M o : Nat} {b : Int32} {σ : zSt} (ho : (10 ≤ o ∧ o ≤ 23) ∨ o = 27 ∨ o = 28) : fX11_dividesByZero ln N M (nI o) b σ = some (if b = 0 ∧ 27 ≤ o then (1, σ) else (0, σ)) := by
  unfold fX11_dividesByZero fX11_dividesByZero_b12
  have hne : ∀ k, k < 100 → o ≠ k → nI o ≠ nI k := fun k hk h w => by
    have := congrArg Int32.toInt w
    rw [nI_toInt (by omega), nI_toInt (by omega)] at this
    omega
  by_cases c1 : o = 27
  · subst c1
    rw [if_pos (show nI 27 = 27 from rfl)]
    by_cases c : b = 0
    · rw [if_pos c, if_pos ⟨c, by omega⟩]
    · rw [if_neg c, if_neg (fun h => c h.1)]
  · rw [if_neg (show ¬ nI o = 27 from hne 27 (by omega) c1)]
    by_cases c2 : o = 28
    · subst c2
      rw [if_pos (show nI 28 = 28 from rfl)]
      by_cases c : b = 0
      · rw [if_pos c, if_pos ⟨c, by omega⟩]
      · rw [if_neg c, if_neg (fun h => c h.1)]
    · rw [if_neg (show ¬ nI o = 28 from hne 28 (by omega) c2), if_neg (fun h => by omega)]
section
variable {ln : Nat → Nat} {N M mc c sz : Nat} {C : Nat → Int32} {P : yP} {mem : Nat → Int32} {pc sp fp g h : Nat} {L : List (Nat × Nat × Nat × Nat)} {σ τ x y : zSt}
theorem i8 (hI : MIN ln mc c sz C P mem pc sp fp g h L σ τ) {o : Nat} (ho : C pc = nI o) (hr : (10 ≤ o ∧ o ≤ 23) ∨ o = 27 ∨ o = 28) (h1 : 2 ≤ h) (hn : WF P g (pc + 1) (h - 1)) : STp ln N M mc P σ τ := by
  obtain ⟨⟨e1, e2, e3, e4, e5, e6, e7, e8, e9⟩, hV, hW, hs, hg, hm, hsp, hp⟩ := hI
  obtain ⟨x, y, a1, -, -⟩ := actR (N := N) e4 e5 e2 e6 e7 hW hp
  obtain ⟨s, rfl⟩ : ∃ s, sp = s + 1 + 1 := ⟨sp - 2, by omega⟩
  have c10 : ¬ nI o < 10 := fun w => by rw [show (10 : Int32) = nI 10 from rfl, nI_ltI (by omega) (by omega)] at w; omega
  have c28 : ¬ (28 : Int32) < nI o := fun w => by rw [show (28 : Int32) = nI 28 from rfl, nI_ltI (by omega) (by omega)] at w; omega
  unfold STp
  rw [mexC e3 hV hp, a1, ho]
  have hcl : (if nI o < (24 : Int32) then fX3_execute_b49 ln N M (nI o) (zsI σ 7 3 (nI (pc + 1))) else if (26 : Int32) < nI o then fX3_execute_b49 ln N M (nI o) (zsI σ 7 3 (nI (pc + 1))) else obd (fX3_pop ln N M (zsI σ 7 3 (nI (pc + 1)))) (fun r11 σ12 => obd (fX11_ofOne ln N M (nI o) r11 σ12) (fun r13 σ14 => obd (fX3_push ln N M r13 σ14) (fun _ σ16 => some ((), σ16))))) = fX3_join ln N M (nI o) (zsI σ 7 3 (nI (pc + 1))) := by
    have hb : fX3_execute_b49 ln N M (nI o) (zsI σ 7 3 (nI (pc + 1))) = fX3_join ln N M (nI o) (zsI σ 7 3 (nI (pc + 1))) := by
      unfold fX3_execute_b49
      rw [if_neg c10, if_neg c28, obd_u]
    by_cases c24 : nI o < 24
    · rw [if_pos c24, hb]
    · rw [if_neg c24, if_pos (by rw [show (26 : Int32) = nI 26 from rfl, nI_ltI (by omega) (by omega)]; rw [show (24 : Int32) = nI 24 from rfl, nI_ltI (by omega) (by omega)] at c24; omega), hb]
  have hrf : fX12_act_b84 N (nI o) x y τ = fX12_reckons_b39 N (nI o) (zsI τ 0 72 (nI (pc + 1))) := by
    unfold fX12_act_b84 fX12_reckons
    rw [if_neg c10, if_neg c28, hW.1, show nI pc + (1 : Int32) = nI (pc + 1) from nI_add _ 1, bnd_e, obd_u]
    by_cases c24 : nI o < 24
    · rw [if_pos c24]
    · rw [if_neg c24, if_pos (by rw [show (26 : Int32) = nI 26 from rfl, nI_ltI (by omega) (by omega)]; rw [show (24 : Int32) = nI 24 from rfl, nI_ltI (by omega) (by omega)] at c24; omega)]
  rw [hcl, hrf]
  unfold fX3_join fX12_reckons_b39
  rw [mpopC e1 e2 (MV_I3 hV) (by omega), obd_s, mpopC e1 e2 (MV_I4 (MV_I3 hV)) (by omega), obd_s, rtopR e2 (MW_I2 hW) (by omega), obd_s, rtopR e2 (MW_I3 (MW_I2 hW)) (by omega), obd_s, div_eq hr]
  by_cases cz : mem (s + 1) = 0 ∧ 27 ≤ o
  · rw [if_pos cz, obd_s, if_neg (by decide), bnd_e, if_pos cz.1, if_neg (fun w => by rw [show (27 : Int32) = nI 27 from rfl, nI_ltI (by omega) (by omega)] at w; omega), bnd_e]
    exact ⟨_, _, rfl, rfl, STo_no (fMC_trans (fMC_I (by omega)) (fMC_trans (fMC_I (by omega)) (fMC_I (by omega)))) (fMR_trans (fMR_I (by omega)) (fMR_trans (fMR_I (by omega)) (fMR_I (by omega)))) (by decide)⟩
  · rw [if_neg cz, obd_s, if_pos rfl]
    have hV2 : MV mc mem (pc + 1) s fp (zsI (zsI (zsI σ 7 3 (nI (pc + 1))) 7 4 (nI (s + 1))) 7 4 (nI s)) := MV_I4 (MV_I4 (MV_I3 hV))
    have hW2 : MW mc mem (pc + 1) s fp (zsI (zsI (zsI τ 0 72 (nI (pc + 1))) 0 73 (nI (s + 1))) 0 73 (nI s)) := MW_I3 (MW_I3 (MW_I2 hW))
    have f1 : fMC σ (zsI (zsI (zsI σ 7 3 (nI (pc + 1))) 7 4 (nI (s + 1))) 7 4 (nI s)) := fMC_trans (fMC_I (by omega)) (fMC_trans (fMC_I (by omega)) (fMC_I (by omega)))
    have f2 : fMR τ (zsI (zsI (zsI τ 0 72 (nI (pc + 1))) 0 73 (nI (s + 1))) 0 73 (nI s)) := fMR_trans (fMR_I (by omega)) (fMR_trans (fMR_I (by omega)) (fMR_I (by omega)))
    revert hV2 hW2 f1 f2
    generalize zsI (zsI (zsI σ 7 3 (nI (pc + 1))) 7 4 (nI (s + 1))) 7 4 (nI s) = u
    generalize zsI (zsI (zsI τ 0 72 (nI (pc + 1))) 0 73 (nI (s + 1))) 0 73 (nI s) = w
    intro hV2 hW2 f1 f2
    obtain ⟨v, v1, v2⟩ := bin_eq (ln := ln) (N := N) (M := M) (a := mem s) (b := mem (s + 1)) (σ := u) (τ := w) hr (fun e => Nat.lt_of_not_le (fun k => cz ⟨e, k⟩))
    have hb65 : fX12_reckons_b65 N (nI o) (mem (s + 1)) (mem s) w = some ((), zsI (zsA w 3 s v) 0 73 (nI (s + 1))) := by
      unfold fX12_reckons_b65
      rw [v2, obd_s, hW2.2.1, nI_clamp (by omega), if_neg (ixN (by omega) (by omega)), bnd_e, zI_A, hW2.2.1, show nI s + (1 : Int32) = nI (s + 1) from nI_add _ 1, bnd_e]
    have hsame : (if mem (s + 1) = 0 then (if nI o < (27 : Int32) then fX12_reckons_b65 N (nI o) (mem (s + 1)) (mem s) w else bnd (zsI w 0 75 (2 : Int32)) (fun σ9 => some ((), σ9))) else fX12_reckons_b65 N (nI o) (mem (s + 1)) (mem s) w) = some ((), zsI (zsA w 3 s v) 0 73 (nI (s + 1))) := by
      by_cases ce : mem (s + 1) = 0
      · rw [if_pos ce, if_pos (by rw [show (27 : Int32) = nI 27 from rfl, nI_ltI (by omega) (by omega)]; exact Nat.lt_of_not_le (fun k => cz ⟨ce, k⟩)), hb65]
      · rw [if_neg ce, hb65]
    rw [hsame, v1, obd_s, mpushC e1 e2 hV2 (by omega), if_pos (show s < mc by omega), obd_s]
    exact ⟨_, _, rfl, rfl, STo_ok (fMC_trans f1 (fMC_trans fMC_A (fMC_I (by omega)))) (fMR_trans f2 (fMR_trans fMR_A (fMR_I (by omega)))) (MV_I4 (MV_A hV2)) (MW_I3 (MW_A hW2)) (by omega) (MSt_in hg hm (mset_lo (by omega)) hn (by omega))⟩
theorem i9 (hI : MIN ln mc c sz C P mem pc sp fp g h L σ τ) {o : Nat} (ho : C pc = nI o) (hr : 24 ≤ o) (hr2 : o ≤ 26) (h1 : 1 ≤ h) (hn : WF P g (pc + 1) h) : STp ln N M mc P σ τ := by
  obtain ⟨⟨e1, e2, e3, e4, e5, e6, e7, e8, e9⟩, hV, hW, hs, hg, hm, hsp, hp⟩ := hI
  obtain ⟨x, y, a1, -, -⟩ := actR (N := N) e4 e5 e2 e6 e7 hW hp
  obtain ⟨s, rfl⟩ : ∃ s, sp = s + 1 := ⟨sp - 1, by omega⟩
  have c10 : ¬ nI o < 10 := fun w => by rw [show (10 : Int32) = nI 10 from rfl, nI_ltI (by omega) (by omega)] at w; omega
  have c28 : ¬ (28 : Int32) < nI o := fun w => by rw [show (28 : Int32) = nI 28 from rfl, nI_ltI (by omega) (by omega)] at w; omega
  have c24 : ¬ nI o < 24 := fun w => by rw [show (24 : Int32) = nI 24 from rfl, nI_ltI (by omega) (by omega)] at w; omega
  have c26 : ¬ (26 : Int32) < nI o := fun w => by rw [show (26 : Int32) = nI 26 from rfl, nI_ltI (by omega) (by omega)] at w; omega
  unfold STp
  rw [mexC e3 hV hp, a1, ho, if_neg c24, if_neg c26, mpopC e1 e2 (MV_I3 hV) (by omega), obd_s]
  have hrf : fX12_act_b84 N (nI o) x y τ = fX12_reckons N (nI o) (zsI τ 0 72 (nI (pc + 1))) := by
    unfold fX12_act_b84
    rw [if_neg c10, if_neg c28, hW.1, show nI pc + (1 : Int32) = nI (pc + 1) from nI_add _ 1, bnd_e, obd_u]
  rw [hrf]
  have hV2 : MV mc mem (pc + 1) s fp (zsI (zsI σ 7 3 (nI (pc + 1))) 7 4 (nI s)) := MV_I4 (MV_I3 hV)
  have hW2 : MW mc mem (pc + 1) (s + 1) fp (zsI τ 0 72 (nI (pc + 1))) := MW_I2 hW
  have f1 : fMC σ (zsI (zsI σ 7 3 (nI (pc + 1))) 7 4 (nI s)) := fMC_trans (fMC_I (by omega)) (fMC_I (by omega))
  have f2 : fMR τ (zsI τ 0 72 (nI (pc + 1))) := fMR_I (by omega)
  revert hV2 hW2 f1 f2
  generalize zsI (zsI σ 7 3 (nI (pc + 1))) 7 4 (nI s) = u
  generalize zsI τ 0 72 (nI (pc + 1)) = w
  intro hV2 hW2 f1 f2
  obtain ⟨v, v1, v2⟩ := un_eq (ln := ln) (N := N) (M := M) (o := nI o) (a := mem s) (σ := u) (τ := w)
  unfold fX12_reckons
  rw [if_neg c24, if_neg c26, hW2.2.1, show nI (s + 1) - (1 : Int32) = nI s from nI_sb s 1, nI_clamp (by omega), if_neg (ixN (by omega) (by omega)), hW2.2.2.2.1 s (by omega), v2, obd_s, if_neg (ixN (by omega) (by omega)), bnd_e, v1, obd_s, mpushC e1 e2 hV2 (by omega), if_pos (show s < mc by omega), obd_s]
  exact ⟨_, _, rfl, rfl, STo_ok (fMC_trans f1 (fMC_trans fMC_A (fMC_I (by omega)))) (fMR_trans f2 fMR_A) (MV_I4 (MV_A hV2)) (MW_A hW2) hs (MSt_in hg hm (mset_lo (by omega)) hn (by omega))⟩
theorem i6 (hI : MIN ln mc c sz C P mem pc sp fp g h L σ τ) (ho : C pc = 6) {k n : Nat} (hk : k + n ≤ P.2.1) (hc : C (pc + 1) = nI k) (hc2 : C (pc + 2) = nI n) (h1 : 1 ≤ h) (hn : WF P g (pc + 3) h) : STp ln N M mc P σ τ := by
  obtain ⟨⟨e1, e2, e3, e4, e5, e6, e7, e8, e9⟩, hV, hW, hs, hg, hm, hsp, hp⟩ := hI
  have hin := WF_in e8 hg hn
  obtain ⟨x, y, a1, a2, a3⟩ := actR (N := N) e4 e5 e2 e6 e7 hW hp
  have hx := a2 (by omega)
  have hy := a3 (by omega)
  subst hx
  subst hy
  obtain ⟨s, rfl⟩ : ∃ s, sp = s + 1 := ⟨sp - 1, by omega⟩
  unfold STp
  rw [exMv e3 hV hp (by rw [ho]; decide), a1, ho, b84lo (by decide)]
  unfold fX3_move fX12_act_b113
  rw [if_neg (by decide), if_neg (by decide), if_neg (by decide), if_neg (by decide), if_neg (by decide), if_neg (by decide), if_pos rfl, if_neg (by decide), if_neg (by decide), if_neg (by decide), if_neg (by decide), if_neg (by decide), if_neg (by decide), if_pos rfl, mnxC (CDc_f e3 (fMC_I (by omega))) (MV_I3 hV) (by omega), obd_s, mnxC (CDc_f e3 (fMC_trans (fMC_I (by omega)) (fMC_I (by omega)))) (MV_I3 (MV_I3 hV)) (by omega), obd_s, obd_u, hW.1, show nI pc + (3 : Int32) = nI (pc + 3) from nI_add _ 3, bnd_e, obd_u, show pc + 1 + 1 = pc + 2 from rfl, hc, hc2]
  unfold fX3_loadItem fX12_items fX12_items_b14 fX3_loadItem_b14 fX12_items_b33
  have hV1 : MV mc mem (pc + 3) (s + 1) fp (zsI (zsI (zsI σ 7 3 (nI (pc + 1))) 7 3 (nI (pc + 2))) 7 3 (nI (pc + 2 + 1))) := MV_I3 (MV_I3 (MV_I3 hV))
  have f1 : fMC σ (zsI (zsI (zsI σ 7 3 (nI (pc + 1))) 7 3 (nI (pc + 2))) 7 3 (nI (pc + 2 + 1))) := fMC_trans (fMC_I (by omega)) (fMC_trans (fMC_I (by omega)) (fMC_I (by omega)))
  have hW1 : MW mc mem (pc + 3) (s + 1) fp (zsI τ 0 72 (nI (pc + 3))) := MW_I2 hW
  have f2 : fMR τ (zsI τ 0 72 (nI (pc + 3))) := fMR_I (by omega)
  revert hV1 hW1 f1 f2
  generalize zsI (zsI (zsI σ 7 3 (nI (pc + 1))) 7 3 (nI (pc + 2))) 7 3 (nI (pc + 2 + 1)) = u
  generalize zsI τ 0 72 (nI (pc + 3)) = w
  intro hV1 f1 hW1 f2
  rw [if_neg (by decide), mpopC e1 e2 hV1 (by omega), obd_s, rtopR e2 hW1 (by omega), obd_s]
  have f1' := fMC_trans f1 (fMC_I (k := 4) (v := nI s) (by omega))
  have f2' := fMR_trans f2 (fMR_I (k := 73) (v := nI s) (by omega))
  by_cases c1 : mem s < 0
  · rw [if_pos c1, if_pos c1, bnd_e, bnd_e]
    exact ⟨_, _, rfl, rfl, STo_no f1' f2' (by decide)⟩
  · rw [if_neg c1, if_neg c1]
    by_cases c2 : mem s < nI n
    · rw [if_pos c2, if_pos c2]
      obtain ⟨j, hj, ej, -, -, -⟩ := pk_mu c1 (Int32.not_le.mpr c2) (by omega)
      rw [ej, nI_add, mldC e1 e2 (MV_I4 hV1) (show k + j < mc by omega), obd_s, obd_u, if_neg (by decide), nI_clamp (by omega), if_neg (ixN (by omega) (by omega)), zA_I, hW1.2.2.2.1 _ (show k + j < mc by omega), obd_u]
      exact pushO e1 e2 (by rw [zI_I, if_neg (by omega), f2.1 8 (by omega)]; exact e5) f1' f2' (MV_I4 hV1) (MW_I3 hW1) (by omega) (fun _ => MSt_in hg hm (mset_lo (by omega)) hn (by omega))
    · rw [if_neg c2, if_neg c2, bnd_e, bnd_e]
      exact ⟨_, _, rfl, rfl, STo_no f1' f2' (by decide)⟩
theorem i7 (hI : MIN ln mc c sz C P mem pc sp fp g h L σ τ) (ho : C pc = 7) {k n : Nat} (hk : k + n ≤ P.2.1) (hc : C (pc + 1) = nI k) (hc2 : C (pc + 2) = nI n) (h1 : 2 ≤ h) (hn : WF P g (pc + 3) (h - 2)) : STp ln N M mc P σ τ := by
  obtain ⟨⟨e1, e2, e3, e4, e5, e6, e7, e8, e9⟩, hV, hW, hs, hg, hm, hsp, hp⟩ := hI
  have hin := WF_in e8 hg hn
  have hlo := mch_lo L fp g hm
  obtain ⟨x, y, a1, a2, a3⟩ := actR (N := N) e4 e5 e2 e6 e7 hW hp
  have hx := a2 (by omega)
  have hy := a3 (by omega)
  subst hx
  subst hy
  obtain ⟨s, rfl⟩ : ∃ s, sp = s + 1 + 1 := ⟨sp - 2, by omega⟩
  unfold STp
  rw [exMv e3 hV hp (by rw [ho]; decide), a1, ho, b84lo (by decide)]
  unfold fX3_move fX12_act_b113
  rw [if_neg (by decide), if_neg (by decide), if_neg (by decide), if_neg (by decide), if_neg (by decide), if_neg (by decide), if_neg (by decide), if_pos rfl, if_neg (by decide), if_neg (by decide), if_neg (by decide), if_neg (by decide), if_neg (by decide), if_neg (by decide), if_neg (by decide), if_pos rfl, mnxC (CDc_f e3 (fMC_I (by omega))) (MV_I3 hV) (by omega), obd_s, mnxC (CDc_f e3 (fMC_trans (fMC_I (by omega)) (fMC_I (by omega)))) (MV_I3 (MV_I3 hV)) (by omega), obd_s, obd_u, hW.1, show nI pc + (3 : Int32) = nI (pc + 3) from nI_add _ 3, bnd_e, obd_u, show pc + 1 + 1 = pc + 2 from rfl, hc, hc2]
  unfold fX3_storeItem fX12_items fX12_items_b14 fX3_storeItem_b22 fX12_items_b33
  have hV1 : MV mc mem (pc + 3) (s + 1 + 1) fp (zsI (zsI (zsI σ 7 3 (nI (pc + 1))) 7 3 (nI (pc + 2))) 7 3 (nI (pc + 2 + 1))) := MV_I3 (MV_I3 (MV_I3 hV))
  have f1 : fMC σ (zsI (zsI (zsI σ 7 3 (nI (pc + 1))) 7 3 (nI (pc + 2))) 7 3 (nI (pc + 2 + 1))) := fMC_trans (fMC_I (by omega)) (fMC_trans (fMC_I (by omega)) (fMC_I (by omega)))
  have hW1 : MW mc mem (pc + 3) (s + 1 + 1) fp (zsI τ 0 72 (nI (pc + 3))) := MW_I2 hW
  have f2 : fMR τ (zsI τ 0 72 (nI (pc + 3))) := fMR_I (by omega)
  revert hV1 hW1 f1 f2
  generalize zsI (zsI (zsI σ 7 3 (nI (pc + 1))) 7 3 (nI (pc + 2))) 7 3 (nI (pc + 2 + 1)) = u
  generalize zsI τ 0 72 (nI (pc + 3)) = w
  intro hV1 f1 hW1 f2
  rw [if_pos rfl, mpopC e1 e2 hV1 (by omega), obd_s, rtopR e2 hW1 (by omega), obd_s, mpopC e1 e2 (MV_I4 hV1) (by omega), obd_s, rtopR e2 (MW_I3 hW1) (by omega), obd_s]
  have f1' := fMC_trans f1 (fMC_trans (fMC_I (k := 4) (v := nI (s + 1)) (by omega)) (fMC_I (k := 4) (v := nI s) (by omega)))
  have f2' := fMR_trans f2 (fMR_trans (fMR_I (k := 73) (v := nI (s + 1)) (by omega)) (fMR_I (k := 73) (v := nI s) (by omega)))
  by_cases c1 : mem s < 0
  · rw [if_pos c1, if_pos c1, bnd_e, bnd_e]
    exact ⟨_, _, rfl, rfl, STo_no f1' f2' (by decide)⟩
  · rw [if_neg c1, if_neg c1]
    by_cases c2 : mem s < nI n
    · rw [if_pos c2, if_pos c2]
      obtain ⟨j, hj, ej, -, -, -⟩ := pk_mu c1 (Int32.not_le.mpr c2) (by omega)
      rw [ej, nI_add, mstC e1 e2 (show k + j < mc by omega), obd_s, if_pos rfl, nI_clamp (by omega), if_neg (ixN (by omega) (by omega)), bnd_e]
      exact ⟨_, _, rfl, rfl, STo_ok (fMC_trans f1' fMC_A) (fMR_trans f2' fMR_A) (MV_A (MV_I4 (MV_I4 hV1))) (MW_A (MW_I3 (MW_I3 hW1))) (by omega) (MSt_in hg hm (fun a b1 b2 b3 => mset_o (by omega)) hn (by omega))⟩
    · rw [if_neg c2, if_neg c2, bnd_e, bnd_e]
      exact ⟨_, _, rfl, rfl, STo_no f1' f2' (by decide)⟩
end
