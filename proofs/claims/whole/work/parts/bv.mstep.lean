/-! THE MACHINE: instructions that move values -/
theorem obd_u {a : Option (Unit × zSt)} : obd a (fun _ s => some ((), s)) = a := by
  cases a with
  | none => rfl
  | some v => obtain ⟨⟨⟩, z⟩ := v; rfl
section
variable {ln : Nat → Nat} {N M mc c sz : Nat} {C mem : Nat → Int32} {pc sp fp : Nat} {σ τ : zSt}
theorem exMv (hC : CDc ln c sz C σ) (h : MV mc mem pc sp fp σ) (hp : pc < sz) (ho : C pc < 10) : fX3_execute ln N M σ = fX3_move ln N M (C pc) (zsI σ 7 3 (nI (pc + 1))) := by
  rw [mexC hC h hp, if_pos (Int32.lt_trans ho (by decide))]
  unfold fX3_execute_b49 fX3_execute_b69
  rw [if_pos ho, if_pos (Int32.lt_trans ho (by decide)), obd_u]
theorem exCt (hC : CDc ln c sz C σ) (h : MV mc mem pc sp fp σ) (hp : pc < sz) (ho : 29 < C pc) : fX3_execute ln N M σ = fX3_control ln N M (C pc) (zsI σ 7 3 (nI (pc + 1))) := by
  have e1 : ¬ C pc < 24 := fun w => absurd (Int32.lt_trans ho w) (by decide)
  have e2 : ¬ C pc < 10 := fun w => absurd (Int32.lt_trans ho w) (by decide)
  have e3 : ¬ C pc < 30 := fun w => by
    rw [Int32.lt_iff_toInt_lt] at ho w
    have a1 : (29 : Int32).toInt = 29 := rfl
    have a2 : (30 : Int32).toInt = 30 := rfl
    omega
  rw [mexC hC h hp, if_neg e1, if_pos (Int32.lt_trans (by decide) ho)]
  unfold fX3_execute_b49 fX3_execute_b69
  rw [if_neg e2, if_pos (Int32.lt_trans (by decide) ho), if_neg e3, obd_u]
theorem b84lo {o x y : Int32} (h : o < 10) : fX12_act_b84 N o x y τ = fX12_act_b113 N o x y τ := by
  unfold fX12_act_b84
  rw [if_pos h]
theorem b84hi {o x y : Int32} (h : 28 < o) : fX12_act_b84 N o x y τ = fX12_act_b113 N o x y τ := by
  unfold fX12_act_b84
  rw [if_neg (fun w => absurd (Int32.lt_trans h w) (by decide)), if_pos h]
end
/-- what comes of an instruction -/
def STo (mc : Nat) (P : yP) (σ τ σ' τ' : zSt) : Prop := fMC σ σ' ∧ fMR τ τ' ∧ zI σ' 7 6 = zI τ' 0 75 ∧ (zI τ' 0 75 = 0 → ∃ mem pc sp fp, MV mc mem pc sp fp σ' ∧ MW mc mem pc sp fp τ' ∧ sp ≤ mc ∧ MSt P mem pc sp fp)
/-- where both machines stand, within a FUNCTION -/
def MEN (ln : Nat → Nat) (mc c sz : Nat) (C : Nat → Int32) (P : yP) (σ τ : zSt) : Prop := ln 26 = mc ∧ mc ≤ 4096 ∧ CDc ln c sz C σ ∧ CDr sz C τ ∧ zI τ 0 8 = nI mc ∧ zI τ 0 29 = nI P.2.1 ∧ P.2.1 ≤ mc ∧ pK P ∧ P.2.2.1 = sz
def MIN (ln : Nat → Nat) (mc c sz : Nat) (C : Nat → Int32) (P : yP) (mem : Nat → Int32) (pc sp fp g h : Nat) (L : List (Nat × Nat × Nat × Nat)) (σ τ : zSt) : Prop := MEN ln mc c sz C P σ τ ∧ MV mc mem pc sp fp σ ∧ MW mc mem pc sp fp τ ∧ sp ≤ mc ∧ isF P g ∧ mch P mem L fp g ∧ sp = fp + P.2.2.2.2 g + h ∧ pc < sz
def STp (ln : Nat → Nat) (N M mc : Nat) (P : yP) (σ τ : zSt) : Prop := ∃ σ' τ', fX3_execute ln N M σ = some ((), σ') ∧ fX12_act N τ = some ((), τ') ∧ STo mc P σ τ σ' τ'
section
variable {ln : Nat → Nat} {N M mc c sz : Nat} {C : Nat → Int32} {P : yP} {mem : Nat → Int32} {pc sp fp g h : Nat} {L : List (Nat × Nat × Nat × Nat)} {σ τ x y : zSt}
theorem MSt_in {mem' : Nat → Int32} {pc' sp' h' : Nat} (hg : isF P g) (hm : mch P mem L fp g) (hc : ∀ a, P.2.1 ≤ a → a < fp → ¬ (fp ≤ a + 2 + npF P g ∧ a + 2 < fp) → mem' a = mem a) (hw : WF P g pc' h') (hs : sp' = fp + P.2.2.2.2 g + h') : MSt P mem' pc' sp' fp := Or.inr (Or.inr ⟨g, L, hg, mch_c L fp g hm hc, Or.inr ⟨h', hw, hs⟩⟩)
theorem STo_ok {mem' : Nat → Int32} {pc' sp' fp' : Nat} {σ' τ' : zSt} (f1 : fMC σ σ') (f2 : fMR τ τ') (h1 : MV mc mem' pc' sp' fp' σ') (h2 : MW mc mem' pc' sp' fp' τ') (h3 : sp' ≤ mc) (h4 : MSt P mem' pc' sp' fp') : STo mc P σ τ σ' τ' := ⟨f1, f2, h1.2.2.2.2.trans h2.2.2.2.2.symm, fun _ => ⟨mem', pc', sp', fp', h1, h2, h3, h4⟩⟩
theorem STo_no {v : Int32} (f1 : fMC σ x) (f2 : fMR τ y) (hv : v ≠ 0) : STo mc P σ τ (zsI x 7 6 v) (zsI y 0 75 v) :=
  ⟨fMC_trans f1 (fMC_I (by omega)), fMR_trans f2 (fMR_I (by omega)), by rw [zI_I, if_pos ⟨rfl, rfl⟩, zI_I, if_pos ⟨rfl, rfl⟩], fun e => absurd (by rw [zI_I, if_pos ⟨rfl, rfl⟩] at e; exact e) hv⟩
theorem pushO {v : Int32} (hl : ln 26 = mc) (hm : mc ≤ 4096) (h8 : zI y 0 8 = nI mc) (f1 : fMC σ x) (f2 : fMR τ y) (hV : MV mc mem pc sp fp x) (hW : MW mc mem pc sp fp y) (hs : sp ≤ mc) (hn : sp < mc → MSt P (mset mem sp v) pc (sp + 1) fp) : ∃ σ' τ', fX3_push ln N M v x = some ((), σ') ∧ fX12_pushes N v y = some ((), τ') ∧ STo mc P σ τ σ' τ' := by
  rw [mpushC hl hm hV hs, rpushR h8 hm hW hs]
  refine ⟨_, _, rfl, rfl, ?_⟩
  by_cases c : sp < mc
  · rw [if_pos c, if_pos c]
    exact STo_ok (fMC_trans f1 (fMC_trans fMC_A (fMC_I (by omega)))) (fMR_trans f2 (fMR_trans fMR_A (fMR_I (by omega)))) (MV_I4 (MV_A hV)) (MW_I3 (MW_A hW)) (by omega) (hn c)
  · rw [if_neg c, if_neg c]
    exact STo_no f1 f2 (by decide)
theorem mset_o {a b : Nat} {v : Int32} (h : b ≠ a) : mset mem a v b = mem b := if_neg h
theorem mset_lo {v : Int32} (ha : fp ≤ sp) : ∀ a, P.2.1 ≤ a → a < fp → ¬ (fp ≤ a + 2 + npF P g ∧ a + 2 < fp) → mset mem sp v a = mem a := fun a _ h2 _ => mset_o (by omega)
theorem i1 (hI : MIN ln mc c sz C P mem pc sp fp g h L σ τ) (ho : C pc = 1) (hn : WF P g (pc + 2) (h + 1)) : STp ln N M mc P σ τ := by
  obtain ⟨⟨e1, e2, e3, e4, e5, e6, e7, e8, e9⟩, hV, hW, hs, hg, hm, hsp, hp⟩ := hI
  have hin := WF_in e8 hg hn
  obtain ⟨x, y, a1, a2, a3⟩ := actR (N := N) e4 e5 e2 e6 e7 hW hp
  have hx := a2 (by omega)
  subst hx
  unfold STp
  rw [exMv e3 hV hp (by rw [ho]; decide), a1, ho, b84lo (by decide)]
  unfold fX3_move fX12_act_b113
  rw [if_neg (by decide), if_pos rfl, if_neg (by decide), if_pos rfl, mnxC (CDc_f e3 (fMC_I (by omega))) (MV_I3 hV) (by omega), obd_s, obd_u, hW.1, show nI pc + (2 : Int32) = nI (pc + 2) from nI_add _ 2, bnd_e, obd_u]
  exact pushO e1 e2 (by rw [zI_I, if_neg (by omega)]; exact e5) (fMC_trans (fMC_I (by omega)) (fMC_I (by omega))) (fMR_I (by omega)) (MV_I3 (MV_I3 hV)) (MW_I2 hW) hs (fun _ => MSt_in hg hm (mset_lo (by omega)) hn (by omega))
theorem i2 (hI : MIN ln mc c sz C P mem pc sp fp g h L σ τ) (ho : C pc = 2) {k : Nat} (hk : k < P.2.1) (hc : C (pc + 1) = nI k) (hn : WF P g (pc + 2) (h + 1)) : STp ln N M mc P σ τ := by
  obtain ⟨⟨e1, e2, e3, e4, e5, e6, e7, e8, e9⟩, hV, hW, hs, hg, hm, hsp, hp⟩ := hI
  have hin := WF_in e8 hg hn
  obtain ⟨x, y, a1, a2, a3⟩ := actR (N := N) e4 e5 e2 e6 e7 hW hp
  have hx := a2 (by omega)
  subst hx
  unfold STp
  rw [exMv e3 hV hp (by rw [ho]; decide), a1, ho, b84lo (by decide)]
  unfold fX3_move fX12_act_b113
  rw [if_neg (by decide), if_neg (by decide), if_pos rfl, if_neg (by decide), if_neg (by decide), if_pos rfl, mnxC (CDc_f e3 (fMC_I (by omega))) (MV_I3 hV) (by omega), obd_s, hc, mldC e1 e2 (MV_I3 (MV_I3 hV)) (show k < mc by omega), obd_s, obd_u, hW.1, show nI pc + (2 : Int32) = nI (pc + 2) from nI_add _ 2, bnd_e, nI_clamp (by omega), if_neg (ixN (by omega) (by omega)), zA_I, hW.2.2.2.1 k (by omega), obd_u]
  exact pushO e1 e2 (by rw [zI_I, if_neg (by omega)]; exact e5) (fMC_trans (fMC_I (by omega)) (fMC_I (by omega))) (fMR_I (by omega)) (MV_I3 (MV_I3 hV)) (MW_I2 hW) hs (fun _ => MSt_in hg hm (mset_lo (by omega)) hn (by omega))
theorem i3 (hI : MIN ln mc c sz C P mem pc sp fp g h L σ τ) (ho : C pc = 3) {k : Nat} (hk : k < P.2.1) (hc : C (pc + 1) = nI k) (h1 : 1 ≤ h) (hn : WF P g (pc + 2) (h - 1)) : STp ln N M mc P σ τ := by
  obtain ⟨⟨e1, e2, e3, e4, e5, e6, e7, e8, e9⟩, hV, hW, hs, hg, hm, hsp, hp⟩ := hI
  have hin := WF_in e8 hg hn
  have hlo := mch_lo L fp g hm
  obtain ⟨x, y, a1, a2, a3⟩ := actR (N := N) e4 e5 e2 e6 e7 hW hp
  have hx := a2 (by omega)
  subst hx
  obtain ⟨s, rfl⟩ : ∃ s, sp = s + 1 := ⟨sp - 1, by omega⟩
  unfold STp
  rw [exMv e3 hV hp (by rw [ho]; decide), a1, ho, b84lo (by decide)]
  unfold fX3_move fX12_act_b113
  rw [if_neg (by decide), if_neg (by decide), if_neg (by decide), if_pos rfl, if_neg (by decide), if_neg (by decide), if_neg (by decide), if_pos rfl, mnxC (CDc_f e3 (fMC_I (by omega))) (MV_I3 hV) (by omega), obd_s, hc, mpopC e1 e2 (MV_I3 (MV_I3 hV)) (by omega), obd_s, obd_u, mstC e1 e2 (show k < mc by omega), hW.1, show nI pc + (2 : Int32) = nI (pc + 2) from nI_add _ 2, bnd_e, rtopR e2 (MW_I2 hW) (by omega), obd_s, nI_clamp (by omega), if_neg (ixN (by omega) (by omega)), bnd_e]
  refine ⟨_, _, rfl, rfl, STo_ok (fMC_trans (fMC_I (by omega)) (fMC_trans (fMC_I (by omega)) (fMC_trans (fMC_I (by omega)) fMC_A))) (fMR_trans (fMR_I (by omega)) (fMR_trans (fMR_I (by omega)) fMR_A)) (MV_A (MV_I4 (MV_I3 (MV_I3 hV)))) (MW_A (MW_I3 (MW_I2 hW))) (by omega) (MSt_in hg hm (fun a a1 a2 a3 => mset_o (by omega)) hn (by omega))⟩
/-- a LOCAL's cell -/
theorem plA {v : Int} (hm : mch P mem L fp g) (hv : plOk (npF P g) (P.2.2.2.2 g) v) (hb : fp + P.2.2.2.2 g ≤ mc) (hmc : mc ≤ 4096) (hnp : npF P g ≤ 8) : ∃ a : Nat, nI fp + Int32.ofInt v = nI a ∧ a < mc ∧ P.2.1 ≤ a ∧ ((fp ≤ a ∧ a < fp + P.2.2.2.2 g) ∨ (fp ≤ a + 2 + npF P g ∧ a + 2 < fp)) := by
  have hlo := mch_lo L fp g hm
  refine ⟨((fp : Int) + v).toNat, ?_, ?_, ?_, ?_⟩
  · have h0 : 0 ≤ (fp : Int) + v := by rcases hv with a | a <;> omega
    rw [← ofInt_n h0, show nI fp = Int32.ofInt (fp : Int) from rfl]
    exact (Int32.ofInt_add _ _).symm
  · rcases hv with a | a <;> omega
  · rcases hv with a | a <;> omega
  · rcases hv with a | a <;> omega
theorem i4 (hI : MIN ln mc c sz C P mem pc sp fp g h L σ τ) (ho : C pc = 4) {v : Int} (hv : plOk (npF P g) (P.2.2.2.2 g) v) (hc : C (pc + 1) = Int32.ofInt v) (hn : WF P g (pc + 2) (h + 1)) : STp ln N M mc P σ τ := by
  obtain ⟨⟨e1, e2, e3, e4, e5, e6, e7, e8, e9⟩, hV, hW, hs, hg, hm, hsp, hp⟩ := hI
  have hin := WF_in e8 hg hn
  obtain ⟨a, p1, p2, p3, p4⟩ := plA hm hv (by omega) e2 (e8.1 g hg).2.1
  obtain ⟨x, y, a1, a2, a3⟩ := actR (N := N) e4 e5 e2 e6 e7 hW hp
  have hx := a2 (by omega)
  subst hx
  unfold STp
  rw [exMv e3 hV hp (by rw [ho]; decide), a1, ho, b84lo (by decide)]
  unfold fX3_move fX12_act_b113
  rw [if_neg (by decide), if_neg (by decide), if_neg (by decide), if_neg (by decide), if_pos rfl, if_neg (by decide), if_neg (by decide), if_neg (by decide), if_neg (by decide), if_pos rfl, mnxC (CDc_f e3 (fMC_I (by omega))) (MV_I3 hV) (by omega), obd_s, (MV_I3 hV).2.2.1, hc, p1, mldC e1 e2 (MV_I3 (MV_I3 hV)) p2, obd_s, obd_u, hW.1, show nI pc + (2 : Int32) = nI (pc + 2) from nI_add _ 2, bnd_e, (MW_I2 hW).2.2.1, p1, nI_clamp (by omega), if_neg (ixN (by omega) (by omega)), zA_I, hW.2.2.2.1 a (by omega), obd_u]
  exact pushO e1 e2 (by rw [zI_I, if_neg (by omega)]; exact e5) (fMC_trans (fMC_I (by omega)) (fMC_I (by omega))) (fMR_I (by omega)) (MV_I3 (MV_I3 hV)) (MW_I2 hW) hs (fun _ => MSt_in hg hm (mset_lo (by omega)) hn (by omega))
theorem i5 (hI : MIN ln mc c sz C P mem pc sp fp g h L σ τ) (ho : C pc = 5) {v : Int} (hv : plOk (npF P g) (P.2.2.2.2 g) v) (hc : C (pc + 1) = Int32.ofInt v) (h1 : 1 ≤ h) (hn : WF P g (pc + 2) (h - 1)) : STp ln N M mc P σ τ := by
  obtain ⟨⟨e1, e2, e3, e4, e5, e6, e7, e8, e9⟩, hV, hW, hs, hg, hm, hsp, hp⟩ := hI
  have hin := WF_in e8 hg hn
  obtain ⟨a, p1, p2, p3, p4⟩ := plA hm hv (by omega) e2 (e8.1 g hg).2.1
  obtain ⟨x, y, a1, a2, a3⟩ := actR (N := N) e4 e5 e2 e6 e7 hW hp
  have hx := a2 (by omega)
  subst hx
  obtain ⟨s, rfl⟩ : ∃ s, sp = s + 1 := ⟨sp - 1, by omega⟩
  unfold STp
  rw [exMv e3 hV hp (by rw [ho]; decide), a1, ho, b84lo (by decide)]
  unfold fX3_move fX12_act_b113
  rw [if_neg (by decide), if_neg (by decide), if_neg (by decide), if_neg (by decide), if_neg (by decide), if_pos rfl, if_neg (by decide), if_neg (by decide), if_neg (by decide), if_neg (by decide), if_neg (by decide), if_pos rfl, mnxC (CDc_f e3 (fMC_I (by omega))) (MV_I3 hV) (by omega), obd_s, (MV_I3 hV).2.2.1, hc, p1, mpopC e1 e2 (MV_I3 (MV_I3 hV)) (by omega), obd_s, obd_u, mstC e1 e2 p2, hW.1, show nI pc + (2 : Int32) = nI (pc + 2) from nI_add _ 2, bnd_e, rtopR e2 (MW_I2 hW) (by omega), obd_s, (MW_I2 hW).2.2.1, p1, nI_clamp (by omega), if_neg (ixN (by omega) (by omega)), bnd_e]
  refine ⟨_, _, rfl, rfl, STo_ok (fMC_trans (fMC_I (by omega)) (fMC_trans (fMC_I (by omega)) (fMC_trans (fMC_I (by omega)) fMC_A))) (fMR_trans (fMR_I (by omega)) (fMR_trans (fMR_I (by omega)) fMR_A)) (MV_A (MV_I4 (MV_I3 (MV_I3 hV)))) (MW_A (MW_I3 (MW_I2 hW))) (by omega) (MSt_in hg hm (fun b a1 a2 a3 => mset_o (by omega)) hn (by omega))⟩
end
