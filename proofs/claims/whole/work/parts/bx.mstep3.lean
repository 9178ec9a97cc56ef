/-! THE MACHINE: jumps, calls, returns -/
theorem nI_leS {s m k : Nat} (hs : s < 2 ^ 30) (hm : m < 2 ^ 30) (hk : k < 2 ^ 30) : (nI s ≤ nI m - nI k) ↔ s + k ≤ m := by
  rw [Int32.le_iff_toInt_le, Int32.toInt_sub, nI_toInt (by omega), nI_toInt (by omega), nI_toInt (by omega), Int.bmod_def]
  omega
section
variable {ln : Nat → Nat} {N M mc c sz : Nat} {C : Nat → Int32} {P : yP} {mem : Nat → Int32} {pc sp fp g h : Nat} {L : List (Nat × Nat × Nat × Nat)} {σ τ x y : zSt}
theorem b113x {o a b : Int32} {τ : zSt} (h : o = 32 ∨ o = 33 ∨ o = 34 ∨ o = 35 ∨ o = 36 ∨ o = 37) : fX12_act_b113 N o a b τ = fX12_acts N o a b τ := by
  unfold fX12_act_b113
  rcases h with e | e | e | e | e | e
  · subst e
    show obd (fX12_acts N 32 a b τ) (fun _ s => some ((), s)) = _
    exact obd_u
  · subst e
    show obd (fX12_acts N 33 a b τ) (fun _ s => some ((), s)) = _
    exact obd_u
  · subst e
    show obd (fX12_acts N 34 a b τ) (fun _ s => some ((), s)) = _
    exact obd_u
  · subst e
    show obd (fX12_acts N 35 a b τ) (fun _ s => some ((), s)) = _
    exact obd_u
  · subst e
    show obd (fX12_acts N 36 a b τ) (fun _ s => some ((), s)) = _
    exact obd_u
  · subst e
    show obd (fX12_acts N 37 a b τ) (fun _ s => some ((), s)) = _
    exact obd_u
theorem b113_30 {a b : Int32} {τ : zSt} : fX12_act_b113 N 30 a b τ = some ((), zsI τ 0 72 a) := rfl
theorem b113_31 {a b : Int32} {τ : zSt} : fX12_act_b113 N 31 a b τ = obd (fX12_top N τ) (fun r72 σ73 => if r72 = 0 then fX12_act_b429 N a σ73 else fX12_act_b429 N ((zI σ73 0 72) + (2 : Int32)) σ73) := rfl
theorem ctl30 {σ : zSt} : fX3_control ln N M 30 σ = obd (fX3_next ln N M σ) (fun r1 σ2 => bnd (zsI σ2 7 3 r1) (fun σ3 => some ((), σ3))) := rfl
theorem ctl31 {σ : zSt} : fX3_control ln N M 31 σ = obd (fX3_next ln N M σ) (fun r4 σ5 => obd (fX3_pop ln N M σ5) (fun r6 σ7 => if r6 = 0 then fX3_control_b80 ln N M r4 σ7 else fX3_control_b80 ln N M (zI σ7 7 3) σ7)) := rfl
theorem ctl32 {σ : zSt} : fX3_control ln N M 32 σ = obd (fX3_next ln N M σ) (fun r9 σ10 => fX3_call ln N M r9 σ10) := by
  show obd (fX3_next ln N M σ) (fun r9 σ10 => obd (fX3_call ln N M r9 σ10) (fun _ σ12 => some ((), σ12))) = _
  congr 1
  funext r s
  exact obd_u
theorem ctl33 {σ : zSt} : fX3_control ln N M 33 σ = obd (fX3_next ln N M σ) (fun r9 σ10 => fX3_leave ln N M r9 σ10) := by
  show obd (fX3_next ln N M σ) (fun r9 σ10 => obd (fX3_leave ln N M r9 σ10) (fun _ σ12 => some ((), σ12))) = _
  congr 1
  funext r s
  exact obd_u
theorem ctl34 {σ : zSt} : fX3_control ln N M 34 σ = fX3_comeOut ln N M 0 σ := by
  show obd (fX3_comeOut ln N M 0 σ) (fun _ s => some ((), s)) = _
  exact obd_u
theorem ctl35 {σ : zSt} : fX3_control ln N M 35 σ = fX3_takeInput ln N M σ := by
  show obd (fX3_takeInput ln N M σ) (fun _ s => some ((), s)) = _
  exact obd_u
theorem ctl36 {σ : zSt} : fX3_control ln N M 36 σ = obd (fX3_pop ln N M σ) (fun _ σ22 => some ((), σ22)) := rfl
theorem ctl37 {σ : zSt} : fX3_control ln N M 37 σ = obd (fX3_next ln N M σ) (fun r9 σ10 => fX3_clear ln N M r9 σ10) := by
  show obd (fX3_next ln N M σ) (fun r9 σ10 => obd (fX3_clear ln N M r9 σ10) (fun _ σ12 => some ((), σ12))) = _
  congr 1
  funext r s
  exact obd_u
theorem i30 (hI : MIN ln mc c sz C P mem pc sp fp g h L σ τ) (ho : C pc = 30) {t : Nat} (hc : C (pc + 1) = nI t) (hp1 : pc + 1 < sz) (hn : WF P g t h) : STp ln N M mc P σ τ := by
  obtain ⟨⟨e1, e2, e3, e4, e5, e6, e7, e8, e9⟩, hV, hW, hs, hg, hm, hsp, hp⟩ := hI
  obtain ⟨x, y, a1, a2, a3⟩ := actR (N := N) e4 e5 e2 e6 e7 hW hp
  have hx := a2 hp1
  subst hx
  unfold STp
  rw [exCt e3 hV hp (by rw [ho]; decide), a1, ho, b84hi (by decide), b113_30, ctl30, mnxC (CDc_f e3 (fMC_I (by omega))) (MV_I3 hV) hp1, obd_s, bnd_e, hc]
  exact ⟨_, _, rfl, rfl, STo_ok (fMC_trans (fMC_I (by omega)) (fMC_trans (fMC_I (by omega)) (fMC_I (by omega)))) (fMR_I (by omega)) (MV_I3 (MV_I3 (MV_I3 hV))) (MW_I2 hW) hs (MSt_in hg hm (fun _ _ _ _ => rfl) hn hsp)⟩
theorem i31 (hI : MIN ln mc c sz C P mem pc sp fp g h L σ τ) (ho : C pc = 31) (h1 : 1 ≤ h) {t : Nat} (hc : C (pc + 1) = nI t) (ht : WF P g t (h - 1)) (hn : WF P g (pc + 2) (h - 1)) : STp ln N M mc P σ τ := by
  obtain ⟨⟨e1, e2, e3, e4, e5, e6, e7, e8, e9⟩, hV, hW, hs, hg, hm, hsp, hp⟩ := hI
  have hin := WF_in e8 hg hn
  obtain ⟨x, y, a1, a2, a3⟩ := actR (N := N) e4 e5 e2 e6 e7 hW hp
  have hx := a2 (by omega)
  subst hx
  obtain ⟨s, rfl⟩ : ∃ s, sp = s + 1 := ⟨sp - 1, by omega⟩
  unfold STp
  rw [exCt e3 hV hp (by rw [ho]; decide), a1, ho, b84hi (by decide), b113_31, ctl31, mnxC (CDc_f e3 (fMC_I (by omega))) (MV_I3 hV) (by omega), obd_s, mpopC e1 e2 (MV_I3 (MV_I3 hV)) (by omega), obd_s, rtopR e2 hW (by omega), obd_s, hc]
  unfold fX3_control_b80 fX12_act_b429
  have f1 : fMC σ (zsI (zsI (zsI σ 7 3 (nI (pc + 1))) 7 3 (nI (pc + 1 + 1))) 7 4 (nI s)) := fMC_trans (fMC_I (by omega)) (fMC_trans (fMC_I (by omega)) (fMC_I (by omega)))
  have f2 : fMR τ (zsI τ 0 73 (nI s)) := fMR_I (by omega)
  have hV2 : MV mc mem (pc + 2) s fp (zsI (zsI (zsI σ 7 3 (nI (pc + 1))) 7 3 (nI (pc + 1 + 1))) 7 4 (nI s)) := MV_I4 (MV_I3 (MV_I3 hV))
  have hW2 : MW mc mem pc s fp (zsI τ 0 73 (nI s)) := MW_I3 hW
  by_cases cz : mem s = 0
  · rw [if_pos cz, if_pos cz, bnd_e, bnd_e]
    exact ⟨_, _, rfl, rfl, STo_ok (fMC_trans f1 (fMC_I (by omega))) (fMR_trans f2 (fMR_I (by omega))) (MV_I3 hV2) (MW_I2 hW2) (by omega) (MSt_in hg hm (fun _ _ _ _ => rfl) ht (by omega))⟩
  · rw [if_neg cz, if_neg cz, bnd_e, bnd_e, hV2.1, hW2.1, show nI pc + (2 : Int32) = nI (pc + 2) from nI_add _ 2]
    exact ⟨_, _, rfl, rfl, STo_ok (fMC_trans f1 (fMC_I (by omega))) (fMR_trans f2 (fMR_I (by omega))) (MV_I3 hV2) (MW_I2 hW2) (by omega) (MSt_in hg hm (fun _ _ _ _ => rfl) hn (by omega))⟩
theorem i36 (hI : MIN ln mc c sz C P mem pc sp fp g h L σ τ) (ho : C pc = 36) (h1 : 1 ≤ h) (hn : WF P g (pc + 1) (h - 1)) : STp ln N M mc P σ τ := by
  obtain ⟨⟨e1, e2, e3, e4, e5, e6, e7, e8, e9⟩, hV, hW, hs, hg, hm, hsp, hp⟩ := hI
  obtain ⟨x, y, a1, a2, a3⟩ := actR (N := N) e4 e5 e2 e6 e7 hW hp
  obtain ⟨s, rfl⟩ : ∃ s, sp = s + 1 := ⟨sp - 1, by omega⟩
  unfold STp
  rw [exCt e3 hV hp (by rw [ho]; decide), a1, ho, b84hi (by decide), b113x (by decide), ctl36, mpopC e1 e2 (MV_I3 hV) (by omega), obd_s]
  have hr : fX12_acts N 36 x y τ = some ((), zsI (zsI τ 0 72 (nI (pc + 1))) 0 73 (nI s)) := by
    show bnd (zsI τ 0 72 ((zI τ 0 72) + (1 : Int32))) (fun σ28 => bnd (zsI σ28 0 73 ((zI σ28 0 73) - (1 : Int32))) (fun σ29 => some ((), σ29))) = _
    rw [hW.1, show nI pc + (1 : Int32) = nI (pc + 1) from nI_add _ 1, bnd_e, bnd_e, (MW_I2 hW).2.1, show nI (s + 1) - (1 : Int32) = nI s from nI_sb s 1]
  rw [hr]
  exact ⟨_, _, rfl, rfl, STo_ok (fMC_trans (fMC_I (by omega)) (fMC_I (by omega))) (fMR_trans (fMR_I (by omega)) (fMR_I (by omega))) (MV_I4 (MV_I3 hV)) (MW_I3 (MW_I2 hW)) (by omega) (MSt_in hg hm (fun _ _ _ _ => rfl) hn (by omega))⟩
/-- a call, from anywhere -/
theorem callO (E : MEN ln mc c sz C P σ τ) (hV : MV mc mem pc sp fp σ) (hW : MW mc mem pc sp fp τ) (hs : sp ≤ mc) (hp : pc + 1 < sz) (ho : C pc = 32) {a : Nat} (hc : C (pc + 1) = nI a) (hn : sp + 2 ≤ mc → MSt P (mset (mset mem sp (nI (pc + 3))) (sp + 1) (nI fp)) a (sp + 2) (sp + 2)) : STp ln N M mc P σ τ := by
  obtain ⟨e1, e2, e3, e4, e5, e6, e7, e8, e9⟩ := E
  obtain ⟨x, y, a1, a2, a3⟩ := actR (N := N) e4 e5 e2 e6 e7 hW (by omega)
  have hx := a2 hp
  subst hx
  unfold STp
  rw [exCt e3 hV (by omega) (by rw [ho]; decide), a1, ho, b84hi (by decide), b113x (by decide), ctl32, mnxC (CDc_f e3 (fMC_I (by omega))) (MV_I3 hV) hp, obd_s, hc]
  unfold fX3_call
  have hr : fX12_acts N 32 (nI a) y τ = obd (fX12_hasRoom N (2 : Int32) τ) (fun r1 σ2 => if r1 = 0 then some ((), σ2) else (if (zI σ2 0 73) < 0 ∨ 4096 ≤ (zI σ2 0 73).toNatClampNeg then none else (bnd (zsA σ2 3 (zI σ2 0 73).toNatClampNeg ((zI σ2 0 72) + (3 : Int32))) (fun σ3 => if ((zI σ3 0 73) + (1 : Int32)) < 0 ∨ 4096 ≤ ((zI σ3 0 73) + (1 : Int32)).toNatClampNeg then none else (bnd (zsA σ3 3 ((zI σ3 0 73) + (1 : Int32)).toNatClampNeg (zI σ3 0 74)) (fun σ4 => bnd (zsI σ4 0 73 ((zI σ4 0 73) + (2 : Int32))) (fun σ5 => bnd (zsI σ5 0 74 (zI σ5 0 73)) (fun σ6 => bnd (zsI σ6 0 72 (nI a)) (fun σ7 => some ((), σ7)))))))))) := rfl
  rw [hr, show (2 : Int32) = nI 2 from rfl, rroomR (k := 2) e5 e2 (by omega) hW hs]
  have hV2 : MV mc mem (pc + 2) sp fp (zsI (zsI σ 7 3 (nI (pc + 1))) 7 3 (nI (pc + 1 + 1))) := MV_I3 (MV_I3 hV)
  have f1 : fMC σ (zsI (zsI σ 7 3 (nI (pc + 1))) 7 3 (nI (pc + 1 + 1))) := fMC_trans (fMC_I (by omega)) (fMC_I (by omega))
  revert hV2 f1
  generalize zsI (zsI σ 7 3 (nI (pc + 1))) 7 3 (nI (pc + 1 + 1)) = u
  intro hV2 f1
  rw [hV2.1, show nI (pc + 2) + (1 : Int32) = nI (pc + 3) from nI_add _ 1, bnd_e, (MV_I3 hV2).2.1, e1]
  by_cases cr : sp + 2 ≤ mc
  · rw [if_pos cr, obd_s, if_pos ((nI_leS (by omega) (by omega) (by omega)).mpr cr), (MV_I3 hV2).1, mpushC e1 e2 (MV_I3 hV2) hs, if_pos (by omega), obd_s, (MV_I4 (MV_A (MV_I3 hV2))).2.2.1, mpushC e1 e2 (MV_I4 (MV_A (MV_I3 hV2))) (by omega), if_pos (by omega), obd_s, (MV_I4 (MV_A (MV_I4 (MV_A (MV_I3 hV2))))).2.1, bnd_e, bnd_e]
    rw [if_neg (by decide), hW.2.1, nI_clamp (by omega), if_neg (ixN (by omega) (by omega)), hW.1, show nI pc + (3 : Int32) = nI (pc + 3) from nI_add _ 3, bnd_e, (MW_A hW).2.1, show nI sp + (1 : Int32) = nI (sp + 1) from nI_add _ 1, nI_clamp (by omega), if_neg (ixN (by omega) (by omega)), (MW_A hW).2.2.1, bnd_e, (MW_A (MW_A hW)).2.1, nI_add, bnd_e, (MW_I3 (MW_A (MW_A hW))).2.1, bnd_e, bnd_e]
    refine ⟨_, _, rfl, rfl, STo_ok (fMC_trans f1 (fMC_trans (fMC_I (by omega)) (fMC_trans fMC_A (fMC_trans (fMC_I (by omega)) (fMC_trans fMC_A (fMC_trans (fMC_I (by omega)) (fMC_trans (fMC_I (by omega)) (fMC_I (by omega))))))))) (fMR_trans fMR_A (fMR_trans fMR_A (fMR_trans (fMR_I (by omega)) (fMR_trans (fMR_I (by omega)) (fMR_I (by omega)))))) (MV_I3 (MV_I5 (MV_I4 (MV_A (MV_I4 (MV_A (MV_I3 hV2))))))) (MW_I2 (MW_I4 (MW_I3 (MW_A (MW_A hW))))) (by omega) (hn cr)⟩
  · rw [if_neg cr, obd_s, if_neg (fun w => cr ((nI_leS (by omega) (by omega) (by omega)).mp w)), bnd_e, if_pos rfl]
    exact ⟨_, _, rfl, rfl, STo_no (fMC_trans f1 (fMC_I (by omega))) fMR_refl (by decide)⟩
theorem i32 (hI : MIN ln mc c sz C P mem pc sp fp g h L σ τ) (ho : C pc = 32) {f m : Nat} (hf : isF P f) (hm : npF P f = m) (hc : C (pc + 1) = nI (szN P f)) (h1 : m ≤ h) (hn : WF P g (pc + 3) (h - m + 1)) : STp ln N M mc P σ τ := by
  obtain ⟨E, hV, hW, hs, hg, hmc, hsp, hp⟩ := hI
  have hin := WF_in E.2.2.2.2.2.2.2.1 hg hn
  have e9 := E.2.2.2.2.2.2.2.2
  refine callO E hV hW hs (by omega) ho hc (fun _ => Or.inr (Or.inr ⟨f, (fp, g, h - m, pc + 3) :: L, hf, ⟨hg, hn, by omega, ?_, ?_, ?_⟩, Or.inl ⟨rfl, rfl⟩⟩))
  · rw [show fp + P.2.2.2.2 g + (h - m) + npF P f = sp by omega, mset_o (by omega)]
    exact if_pos rfl
  · rw [show fp + P.2.2.2.2 g + (h - m) + npF P f + 1 = sp + 1 by omega]
    exact if_pos rfl
  · exact mch_c L fp g hmc (fun a b1 b2 b3 => by rw [mset_o (by omega), mset_o (by omega)])
theorem i33 (hI : MIN ln mc c sz C P mem pc sp fp g h L σ τ) (ho : C pc = 33) (hc : C (pc + 1) = nI (npF P g)) (hp1 : pc + 1 < sz) (h1 : 1 ≤ h) : STp ln N M mc P σ τ := by
  obtain ⟨⟨e1, e2, e3, e4, e5, e6, e7, e8, e9⟩, hV, hW, hs, hg, hm, hsp, hp⟩ := hI
  have hlo := mch_lo L fp g hm
  have hnp := (e8.1 g hg).2.1
  obtain ⟨x, y, a1, a2, a3⟩ := actR (N := N) e4 e5 e2 e6 e7 hW hp
  have hx := a2 hp1
  subst hx
  obtain ⟨s, rfl⟩ : ∃ s, sp = s + 1 := ⟨sp - 1, by omega⟩
  obtain ⟨b, rfl⟩ : ∃ b, fp = b + npF P g + 2 := ⟨fp - 2 - npF P g, by omega⟩
  -- where it goes back to
  obtain ⟨r, f, q1, q2, q3⟩ : ∃ r f, mem (b + npF P g) = nI r ∧ mem (b + npF P g + 1) = nI f ∧ MSt P (mset mem b (mem s)) r (b + 1) f := by
    cases L with
    | nil =>
      obtain ⟨m1, m2, m3, m4⟩ := hm
      have eb : b = P.2.1 := by omega
      rw [m2, Nat.add_zero, eb]
      exact ⟨3, 0, m3, m4, Or.inr (Or.inl ⟨rfl, rfl, rfl⟩)⟩
    | cons a L =>
      obtain ⟨b', g', h', ret⟩ := a
      obtain ⟨m1, m2, m3, m4, m5, m6⟩ := hm
      have eb : b = b' + P.2.2.2.2 g' + h' := by omega
      rw [eb]
      exact ⟨ret, b', m4, m5, MSt_in m1 m6 (fun a b1 b2 b3 => mset_o (by omega)) m2 (by omega)⟩
  unfold STp
  rw [exCt e3 hV hp (by rw [ho]; decide), a1, ho, b84hi (by decide), b113x (by decide), ctl33, mnxC (CDc_f e3 (fMC_I (by omega))) (MV_I3 hV) hp1, obd_s, hc]
  unfold fX3_leave
  have hr : fX12_acts N 33 (nI (npF P g)) y τ = obd (fX12_top N τ) (fun r8 σ9 => if ((zI σ9 0 74) - (2 : Int32)) < 0 ∨ 4096 ≤ ((zI σ9 0 74) - (2 : Int32)).toNatClampNeg then none else (bnd (zA σ9 3 ((zI σ9 0 74) - (2 : Int32)).toNatClampNeg) (fun x10 => bnd (zsI σ9 0 73 (((zI σ9 0 74) - (2 : Int32)) - (nI (npF P g)))) (fun σ11 => if ((zI σ11 0 74) - (1 : Int32)) < 0 ∨ 4096 ≤ ((zI σ11 0 74) - (1 : Int32)).toNatClampNeg then none else (bnd (zsI σ11 0 74 (zA σ11 3 ((zI σ11 0 74) - (1 : Int32)).toNatClampNeg)) (fun σ12 => bnd (zsI σ12 0 72 x10) (fun σ13 => if (zI σ13 0 73) < 0 ∨ 4096 ≤ (zI σ13 0 73).toNatClampNeg then none else (bnd (zsA σ13 3 (zI σ13 0 73).toNatClampNeg r8) (fun σ14 => bnd (zsI σ14 0 73 ((zI σ14 0 73) + (1 : Int32))) (fun σ15 => some ((), σ15)))))))))) ) := rfl
  rw [hr]
  have hV2 : MV mc mem (pc + 2) (s + 1) (b + npF P g + 2) (zsI (zsI σ 7 3 (nI (pc + 1))) 7 3 (nI (pc + 1 + 1))) := MV_I3 (MV_I3 hV)
  have f1 : fMC σ (zsI (zsI σ 7 3 (nI (pc + 1))) 7 3 (nI (pc + 1 + 1))) := fMC_trans (fMC_I (by omega)) (fMC_I (by omega))
  revert hV2 f1
  generalize zsI (zsI σ 7 3 (nI (pc + 1))) 7 3 (nI (pc + 1 + 1)) = u
  intro hV2 f1
  rw [mpopC e1 e2 hV2 (by omega), obd_s, (MV_I4 hV2).2.2.1, bnd_e, show nI (b + npF P g + 2) - (2 : Int32) = nI (b + npF P g) from nI_sb _ 2, nI_sb, bnd_e, mldC e1 e2 (MV_I4 (MV_I4 hV2)) (by omega), obd_s, q1, bnd_e, show nI (b + npF P g + 2) - (1 : Int32) = nI (b + npF P g + 1) from nI_sb _ 1, mldC e1 e2 (MV_I3 (MV_I4 (MV_I4 hV2))) (by omega), obd_s, q2, bnd_e, mpushC e1 e2 (MV_I5 (MV_I3 (MV_I4 (MV_I4 hV2)))) (by omega), if_pos (show b < mc by omega), obd_s]
  rw [rtopR e2 hW (by omega), obd_s, (MW_I3 hW).2.2.1, show nI (b + npF P g + 2) - (2 : Int32) = nI (b + npF P g) from nI_sb _ 2, nI_clamp (by omega), if_neg (ixN (by omega) (by omega)), zA_I, hW.2.2.2.1 _ (by omega), q1, bnd_e, nI_sb, bnd_e, (MW_I3 (MW_I3 hW)).2.2.1, show nI (b + npF P g + 2) - (1 : Int32) = nI (b + npF P g + 1) from nI_sb _ 1, nI_clamp (by omega), if_neg (ixN (by omega) (by omega)), zA_I, zA_I, hW.2.2.2.1 _ (by omega), q2, bnd_e, bnd_e, (MW_I2 (MW_I4 (MW_I3 (MW_I3 hW)))).2.1, nI_clamp (by omega), if_neg (ixN (by omega) (by omega)), bnd_e, (MW_A (MW_I2 (MW_I4 (MW_I3 (MW_I3 hW))))).2.1, show nI b + (1 : Int32) = nI (b + 1) from nI_add _ 1, bnd_e]
  exact ⟨_, _, rfl, rfl, STo_ok (fMC_trans f1 (fMC_trans (fMC_I (by omega)) (fMC_trans (fMC_I (by omega)) (fMC_trans (fMC_I (by omega)) (fMC_trans (fMC_I (by omega)) (fMC_trans fMC_A (fMC_I (by omega)))))))) (fMR_trans (fMR_I (by omega)) (fMR_trans (fMR_I (by omega)) (fMR_trans (fMR_I (by omega)) (fMR_trans (fMR_I (by omega)) (fMR_trans fMR_A (fMR_I (by omega))))))) (MV_I4 (MV_A (MV_I5 (MV_I3 (MV_I4 (MV_I4 hV2)))))) (MW_I3 (MW_A (MW_I2 (MW_I4 (MW_I3 (MW_I3 hW)))))) (by omega) q3⟩
end
