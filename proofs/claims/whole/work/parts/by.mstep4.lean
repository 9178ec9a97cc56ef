/-! THE MACHINE: LOCALS, the tape, every instruction -/
def memz (mem : Nat → Int32) (p d : Nat) : Nat → Int32 := fun i => if p ≤ i ∧ i < p + d then 0 else mem i
section
variable {ln : Nat → Nat} {N M mc c sz io : Nat} {C : Nat → Int32} {P : yP} {mem : Nat → Int32} {pc sp fp g h : Nat} {L : List (Nat × Nat × Nat × Nat)} {σ τ x y : zSt}
theorem memz_0 {p : Nat} : memz mem p 0 = mem := by
  funext i
  exact if_neg (by omega)
theorem memz_s {p d : Nat} : memz (mset mem p 0) (p + 1) d = memz mem p (d + 1) := by
  funext i
  unfold memz mset
  by_cases e : i = p
  · rw [if_neg (by omega), if_pos e, if_pos (by omega)]
  · rw [if_neg e]
    by_cases c : p + 1 ≤ i ∧ i < p + 1 + d
    · rw [if_pos c, if_pos (by omega)]
    · rw [if_neg c, if_neg (by omega)]
theorem clrC {n : Nat} (hl : ln 26 = mc) (hm : mc ≤ 4096) (hn : n ≤ 4096) : ∀ (d k f : Nat) (mem : Nat → Int32) (sp : Nat) (σ : zSt), MV mc mem pc sp fp σ → k + d = n → d < f → sp + d ≤ mc → ∃ σ', fX3_clear_b22 ln N M f (nI n) (nI k) σ = some ((), σ') ∧ MV mc (memz mem sp d) pc (sp + d) fp σ' ∧ fMC σ σ' := by
  intro d
  induction d with
  | zero =>
    intro k f mem sp σ hV hk hf hs
    obtain ⟨f, rfl⟩ : ∃ g, f = g + 1 := ⟨f - 1, by omega⟩
    rw [fX3_clear_b22, show k = n by omega, if_pos (Int32.le_refl _)]
    exact ⟨σ, rfl, by rw [memz_0]; exact hV, fMC_refl⟩
  | succ d ih =>
    intro k f mem sp σ hV hk hf hs
    obtain ⟨f, rfl⟩ : ∃ g, f = g + 1 := ⟨f - 1, by omega⟩
    rw [fX3_clear_b22, if_neg (fun w => by rw [nI_le' (by omega) (by omega)] at w; omega), mpushC hl hm hV (by omega), if_pos (by omega), obd_s, show nI k + (1 : Int32) = nI (k + 1) from nI_add _ 1, bnd_e]
    obtain ⟨z, z1, z2, z3⟩ := ih (k + 1) f _ (sp + 1) _ (MV_I4 (MV_A (v := 0) hV)) (by omega) (by omega) (by omega)
    rw [memz_s, show sp + 1 + d = sp + (d + 1) by omega] at z2
    exact ⟨z, z1, z2, fMC_trans (fMC_trans fMC_A (fMC_I (by omega))) z3⟩
theorem clrR {n : Nat} (hm : mc ≤ 4096) (hn : sp + n ≤ mc) : ∀ (d k f : Nat) (mem : Nat → Int32) (τ : zSt), MW mc mem pc sp fp τ → k + d = n → d < f → ∃ τ', fX12_acts_b319 N f (nI n) (nI k) τ = some ((), τ') ∧ MW mc (memz mem (sp + k) d) pc (sp + n) fp τ' ∧ fMR τ τ' := by
  intro d
  induction d with
  | zero =>
    intro k f mem τ hW hk hf
    obtain ⟨f, rfl⟩ : ∃ g, f = g + 1 := ⟨f - 1, by omega⟩
    rw [fX12_acts_b319, show k = n by omega, if_pos (Int32.le_refl _), hW.2.1, nI_add, bnd_e]
    exact ⟨_, rfl, by rw [memz_0]; exact MW_I3 hW, fMR_I (by omega)⟩
  | succ d ih =>
    intro k f mem τ hW hk hf
    obtain ⟨f, rfl⟩ : ∃ g, f = g + 1 := ⟨f - 1, by omega⟩
    rw [fX12_acts_b319, if_neg (fun w => by rw [nI_le' (by omega) (by omega)] at w; omega), hW.2.1, nI_add, nI_clamp (by omega), if_neg (ixN (by omega) (by omega)), show nI k + (1 : Int32) = nI (k + 1) from nI_add _ 1, bnd_e, bnd_e]
    obtain ⟨z, z1, z2, z3⟩ := ih (k + 1) f _ _ (MW_A (p := sp + k) (v := 0) hW) (by omega) (by omega)
    rw [show sp + (k + 1) = sp + k + 1 by omega, memz_s] at z2
    exact ⟨z, z1, z2, fMR_trans fMR_A z3⟩
theorem i37 (hN : 5000 ≤ N) (E : MEN ln mc c sz C P σ τ) (hV : MV mc mem pc sp fp σ) (hW : MW mc mem pc sp fp τ) (hs : sp ≤ mc) (hg : isF P g) (hm : mch P mem L fp g) (hpc : pc = szN P g) (hsp : sp = fp) (ho : C pc = 37) (hc : C (pc + 1) = nI (P.2.2.2.2 g)) (hp1 : pc + 1 < sz) : STp ln N M mc P σ τ := by
  obtain ⟨e1, e2, e3, e4, e5, e6, e7, e8, e9⟩ := E
  have hms := (e8.1 g hg).1
  obtain ⟨x, y, a1, a2, a3⟩ := actR (N := N) e4 e5 e2 e6 e7 hW (by omega)
  have hx := a2 hp1
  subst hx
  unfold STp
  rw [exCt e3 hV (by omega) (by rw [ho]; decide), a1, ho, b84hi (by decide), b113x (by decide), ctl37, mnxC (CDc_f e3 (fMC_I (by omega))) (MV_I3 hV) hp1, obd_s, hc]
  unfold fX3_clear
  have hr : fX12_acts N 37 (nI (P.2.2.2.2 g)) y τ = bnd (zsI τ 0 72 ((zI τ 0 72) + (2 : Int32))) (fun σ30 => obd (fX12_hasRoom N (nI (P.2.2.2.2 g)) σ30) (fun r31 σ32 => if r31 = 0 then some ((), σ32) else (bnd (0 : Int32) (fun x33 => fX12_acts_b319 N N (nI (P.2.2.2.2 g)) x33 σ32)))) := rfl
  rw [hr, hW.1, show nI pc + (2 : Int32) = nI (pc + 2) from nI_add _ 2, bnd_e, bnd_e, bnd_e, rroomR (k := P.2.2.2.2 g) (by rw [zI_I, if_neg (by omega)]; exact e5) e2 (by omega) (MW_I2 hW) hs]
  have hV2 : MV mc mem (pc + 2) sp fp (zsI (zsI σ 7 3 (nI (pc + 1))) 7 3 (nI (pc + 1 + 1))) := MV_I3 (MV_I3 hV)
  have f1 : fMC σ (zsI (zsI σ 7 3 (nI (pc + 1))) 7 3 (nI (pc + 1 + 1))) := fMC_trans (fMC_I (by omega)) (fMC_I (by omega))
  revert hV2 f1
  generalize zsI (zsI σ 7 3 (nI (pc + 1))) 7 3 (nI (pc + 1 + 1)) = u
  intro hV2 f1
  rw [hV2.2.1, e1]
  by_cases cr : sp + P.2.2.2.2 g ≤ mc
  · rw [if_pos cr, obd_s, if_pos ((nI_leS (by omega) (by omega) (by omega)).mpr cr), if_neg (by decide), bnd_e]
    obtain ⟨s1, p1, p2, p3⟩ := clrC (ln := ln) (N := N) (M := M) e1 e2 hms (P.2.2.2.2 g) 0 N mem sp u hV2 (by omega) (by omega) cr
    obtain ⟨t1, q1, q2, q3⟩ := clrR (N := N) (n := P.2.2.2.2 g) e2 cr (P.2.2.2.2 g) 0 N mem (zsI τ 0 72 (nI (pc + 2))) (MW_I2 hW) (by omega) (by omega)
    rw [show (0 : Int32) = nI 0 from rfl, p1, q1]
    refine ⟨_, _, rfl, rfl, STo_ok (fMC_trans f1 p3) (fMR_trans (fMR_I (by omega)) q3) p2 q2 cr (MSt_in hg hm (fun a b1 b2 b3 => if_neg (by omega)) (by rw [hpc]; exact WF_st e8 hg) (by omega))⟩
  · rw [if_neg cr, obd_s, if_neg (fun w => cr ((nI_leS (by omega) (by omega) (by omega)).mp w)), if_pos rfl]
    exact ⟨_, _, rfl, rfl, STo_no f1 (fMR_I (by omega)) (by decide)⟩
end
/-! the tape -/
def TPr (io : Nat) (σ τ : zSt) : Prop := ∃ i o, zI σ 6 2 = nI i ∧ zI τ 0 11 = nI i ∧ i ≤ io ∧ zI σ 6 4 = nI o ∧ zI τ 0 14 = nI o ∧ o ≤ io ∧ (∀ k, k < i → zA σ 24 k = zA τ 4 k) ∧ (∀ k, k < o → zA σ 25 k = zA τ 5 k)
def TAt (σ τ : zSt) : Prop := ∃ j i, zI σ 6 3 = nI j ∧ zI τ 0 12 = nI j ∧ zI σ 6 2 = nI i ∧ j ≤ i ∧ i ≤ 4096
def gMC (τ u : zSt) : Prop := (∀ o k, ¬ (o = 7 ∧ 3 ≤ k ∧ k ≤ 6) → ¬ (o = 6 ∧ (k = 3 ∨ k = 4)) → zI u o k = zI τ o k) ∧ (∀ o k, zL u o k = zL τ o k) ∧ (∀ o k, zR u o k = zR τ o k) ∧ (∀ a i, a ≠ 26 → a ≠ 25 → zA u a i = zA τ a i) ∧ (∀ a i, zB u a i = zB τ a i)
def gMR (τ u : zSt) : Prop := (∀ j, ¬ (72 ≤ j ∧ j ≤ 75) → j ≠ 12 → j ≠ 14 → zI u 0 j = zI τ 0 j) ∧ (∀ a i, a ≠ 3 → a ≠ 5 → zA u a i = zA τ a i) ∧ (∀ a i, zB u a i = zB τ a i)
def STx (mc io : Nat) (P : yP) (σ τ σ' τ' : zSt) : Prop := gMC σ σ' ∧ gMR τ τ' ∧ TPr io σ' τ' ∧ zI σ' 7 6 = zI τ' 0 75 ∧ (zI τ' 0 75 = 0 → TAt σ' τ' ∧ ∃ mem pc sp fp, MV mc mem pc sp fp σ' ∧ MW mc mem pc sp fp τ' ∧ sp ≤ mc ∧ MSt P mem pc sp fp)
def STq (ln : Nat → Nat) (N M mc io : Nat) (P : yP) (σ τ : zSt) : Prop := ∃ σ' τ', fX3_execute ln N M σ = some ((), σ') ∧ fX12_act N τ = some ((), τ') ∧ STx mc io P σ τ σ' τ'
theorem fMC_g {τ u : zSt} (h : fMC τ u) : gMC τ u := ⟨fun o k a _ => h.1 o k a, h.2.1, h.2.2.1, fun a i c _ => h.2.2.2.1 a i c, h.2.2.2.2⟩
theorem fMR_g {τ u : zSt} (h : fMR τ u) : gMR τ u := ⟨fun j a _ _ => h.1 j a, fun a i c _ => h.2.1 a i c, h.2.2⟩
section
variable {ln : Nat → Nat} {N M mc c sz io : Nat} {C : Nat → Int32} {P : yP} {mem : Nat → Int32} {pc sp fp g h : Nat} {L : List (Nat × Nat × Nat × Nat)} {σ τ x y : zSt}
theorem TPr_f {σ' τ' : zSt} (f1 : fMC σ σ') (f2 : fMR τ τ') (h : TPr io σ τ) : TPr io σ' τ' := by
  obtain ⟨i, o, t1, t2, t3, t4, t5, t6, t7, t8⟩ := h
  exact ⟨i, o, (f1.1 _ _ (by omega)).trans t1, (f2.1 _ (by omega)).trans t2, t3, (f1.1 _ _ (by omega)).trans t4, (f2.1 _ (by omega)).trans t5, t6, fun k hk => by rw [f1.2.2.2.1 _ _ (by omega), f2.2.1 _ _ (by omega)]; exact t7 k hk, fun k hk => by rw [f1.2.2.2.1 _ _ (by omega), f2.2.1 _ _ (by omega)]; exact t8 k hk⟩
theorem TAt_f {σ' τ' : zSt} (f1 : fMC σ σ') (f2 : fMR τ τ') (h : TAt σ τ) : TAt σ' τ' := by
  obtain ⟨j, i, t1, t2, t3, t4⟩ := h
  exact ⟨j, i, (f1.1 _ _ (by omega)).trans t1, (f2.1 _ (by omega)).trans t2, (f1.1 _ _ (by omega)).trans t3, t4⟩
theorem STq_of (h : STp ln N M mc P σ τ) (h1 : TPr io σ τ) (h2 : TAt σ τ) : STq ln N M mc io P σ τ := by
  obtain ⟨σ', τ', a, b, f1, f2, e, k⟩ := h
  exact ⟨σ', τ', a, b, fMC_g f1, fMR_g f2, TPr_f f1 f2 h1, e, fun w => ⟨TAt_f f1 f2 h2, k w⟩⟩
/-- a number comes out -/
theorem outO {v : Int32} (h25 : ln 25 = io) (hio : io ≤ 4096) (h10 : zI τ 0 10 = nI io) (hT : TPr io σ τ) : (∃ o, o < io ∧ fX8_putOutput ln N M v σ = some (1, zsI (zsA σ 25 o v) 6 4 (nI (o + 1))) ∧ fX12_comesOut N v τ = some ((), zsI (zsA τ 5 o v) 0 14 (nI (o + 1))) ∧ TPr io (zsI (zsA σ 25 o v) 6 4 (nI (o + 1))) (zsI (zsA τ 5 o v) 0 14 (nI (o + 1)))) ∨ (fX8_putOutput ln N M v σ = some (0, σ) ∧ fX12_comesOut N v τ = some ((), zsI τ 0 75 6)) := by
  obtain ⟨i, o, t1, t2, t3, t4, t5, t6, t7, t8⟩ := hT
  unfold fX8_putOutput fX12_comesOut
  rw [h25, t4, t5, h10]
  by_cases c : o < io
  · left
    refine ⟨o, c, ?_, ?_, i, o + 1, ?_, ?_, t3, ?_, ?_, by omega, fun k hk => ?_, fun k hk => ?_⟩
    · rw [if_pos ((nI_ltI (by omega) (by omega)).mpr c), nI_clamp (by omega), if_neg (ixN (by omega) (by omega)), bnd_e, zI_A, t4, show nI o + (1 : Int32) = nI (o + 1) from nI_add _ 1, bnd_e]
    · rw [if_neg (fun w => by have := congrArg Int32.toInt w; rw [nI_toInt (by omega), nI_toInt (by omega)] at this; omega), nI_clamp (by omega), if_neg (ixN (by omega) (by omega)), bnd_e, zI_A, t5, show nI o + (1 : Int32) = nI (o + 1) from nI_add _ 1, bnd_e]
    · rw [zI_I, if_neg (by omega), zI_A]; exact t1
    · rw [zI_I, if_neg (by omega), zI_A]; exact t2
    · rw [zI_I, if_pos ⟨rfl, rfl⟩]
    · rw [zI_I, if_pos ⟨rfl, rfl⟩]
    · rw [zA_I, zA_I, zA_A, if_neg (by omega), zA_A, if_neg (by omega)]; exact t7 k hk
    · rw [zA_I, zA_I, zA_A, zA_A]
      by_cases e : k = o
      · rw [if_pos ⟨rfl, e⟩, if_pos ⟨rfl, e⟩]
      · rw [if_neg (fun w => e w.2), if_neg (fun w => e w.2)]; exact t8 k (by omega)
  · right
    have e : o = io := by omega
    rw [e, if_neg (fun w => by rw [nI_ltI (by omega) (by omega)] at w; omega), if_pos rfl, bnd_e]
    exact ⟨rfl, rfl⟩
theorem i34 (h25 : ln 25 = io) (hio : io ≤ 4096) (h10 : zI τ 0 10 = nI io) (hT : TPr io σ τ) (hA : TAt σ τ) (hI : MIN ln mc c sz C P mem pc sp fp g h L σ τ) (ho : C pc = 34) (h1 : 1 ≤ h) (hn : WF P g (pc + 1) (h - 1)) : STq ln N M mc io P σ τ := by
  obtain ⟨⟨e1, e2, e3, e4, e5, e6, e7, e8, e9⟩, hV, hW, hs, hg, hm, hsp, hp⟩ := hI
  obtain ⟨x, y, a1, a2, a3⟩ := actR (N := N) e4 e5 e2 e6 e7 hW hp
  obtain ⟨s, rfl⟩ : ∃ s, sp = s + 1 := ⟨sp - 1, by omega⟩
  unfold STq
  rw [exCt e3 hV hp (by rw [ho]; decide), a1, ho, b84hi (by decide), b113x (by decide), ctl34]
  unfold fX3_comeOut fX3_comeOut_b21
  have hr : fX12_acts N 34 x y τ = bnd (zsI τ 0 72 ((zI τ 0 72) + (1 : Int32))) (fun σ16 => obd (fX12_top N σ16) (fun r17 σ18 => obd (fX12_comesOut N r17 σ18) (fun _ σ20 => some ((), σ20)))) := rfl
  rw [hr, hW.1, show nI pc + (1 : Int32) = nI (pc + 1) from nI_add _ 1, bnd_e, mpopC e1 e2 (MV_I3 hV) (by omega), obd_s, rtopR e2 (MW_I2 hW) (by omega), obd_s, obd_u]
  have f1 : fMC σ (zsI (zsI σ 7 3 (nI (pc + 1))) 7 4 (nI s)) := fMC_trans (fMC_I (by omega)) (fMC_I (by omega))
  have f2 : fMR τ (zsI (zsI τ 0 72 (nI (pc + 1))) 0 73 (nI s)) := fMR_trans (fMR_I (by omega)) (fMR_I (by omega))
  have hV2 : MV mc mem (pc + 1) s fp (zsI (zsI σ 7 3 (nI (pc + 1))) 7 4 (nI s)) := MV_I4 (MV_I3 hV)
  have hW2 : MW mc mem (pc + 1) s fp (zsI (zsI τ 0 72 (nI (pc + 1))) 0 73 (nI s)) := MW_I3 (MW_I2 hW)
  have hT2 := TPr_f f1 f2 hT
  have hA2 := TAt_f f1 f2 hA
  revert f1 f2 hV2 hW2 hT2 hA2
  generalize zsI (zsI σ 7 3 (nI (pc + 1))) 7 4 (nI s) = u
  generalize zsI (zsI τ 0 72 (nI (pc + 1))) 0 73 (nI s) = w
  intro f1 f2 hV2 hW2 hT2 hA2
  rcases outO (ln := ln) (N := N) (M := M) (v := mem s) h25 hio ((f2.1 10 (by omega)).trans h10) hT2 with ⟨o, c, p1, p2, p3⟩ | ⟨p1, p2⟩
  · rw [p1, p2, obd_s, if_neg (by decide), bnd_e]
    have z6 : zI (zsI (zsI (zsA u 25 o (mem s)) 6 4 (nI (o + 1))) 7 6 0) 7 6 = 0 := by rw [zI_I, if_pos ⟨rfl, rfl⟩]
    have z75 : zI (zsI (zsA w 5 o (mem s)) 0 14 (nI (o + 1))) 0 75 = 0 := by rw [zI_I, if_neg (by omega), zI_A]; exact hW2.2.2.2.2
    refine ⟨_, _, rfl, rfl, ⟨fun o' k c1 c2 => ?_, fun o' k => f1.2.1 o' k, fun o' k => f1.2.2.1 o' k, fun a i c1 c2 => ?_, fun a i => f1.2.2.2.2 a i⟩, ⟨fun j c1 c2 c3 => ?_, fun a i c1 c2 => ?_, fun a i => f2.2.2 a i⟩, ?_, ?_, fun _ => ⟨?_, mem, pc + 1, s, fp, ?_, ?_, by omega, MSt_in hg hm (fun _ _ _ _ => rfl) hn (by omega)⟩⟩
    · rw [zI_I, if_neg (by omega), zI_I, if_neg (by omega), zI_A]; exact f1.1 o' k c1
    · rw [zA_I, zA_I, zA_A, if_neg (by omega)]; exact f1.2.2.2.1 a i c1
    · rw [zI_I, if_neg (by omega), zI_A]; exact f2.1 j c1
    · rw [zA_I, zA_A, if_neg (by omega)]; exact f2.2.1 a i c1
    · obtain ⟨i, o2, t1, t2, t3, t4, t5, t6, t7, t8⟩ := p3
      exact ⟨i, o2, (by rw [zI_I, if_neg (by omega)]; exact t1), t2, t3, (by rw [zI_I, if_neg (by omega)]; exact t4), t5, t6, t7, t8⟩
    · rw [z6, z75]
    · obtain ⟨j, i, t1, t2, t3, t4⟩ := hA2
      exact ⟨j, i, (by rw [zI_I, if_neg (by omega), zI_I, if_neg (by omega), zI_A]; exact t1), (by rw [zI_I, if_neg (by omega), zI_A]; exact t2), (by rw [zI_I, if_neg (by omega), zI_I, if_neg (by omega), zI_A]; exact t3), t4⟩
    · refine ⟨?_, ?_, ?_, fun i hi => ?_, z6⟩
      · rw [zI_I, if_neg (by omega), zI_I, if_neg (by omega), zI_A]; exact hV2.1
      · rw [zI_I, if_neg (by omega), zI_I, if_neg (by omega), zI_A]; exact hV2.2.1
      · rw [zI_I, if_neg (by omega), zI_I, if_neg (by omega), zI_A]; exact hV2.2.2.1
      · rw [zA_I, zA_I, zA_A, if_neg (by omega)]; exact hV2.2.2.2.1 i hi
    · refine ⟨?_, ?_, ?_, fun i hi => ?_, z75⟩
      · rw [zI_I, if_neg (by omega), zI_A]; exact hW2.1
      · rw [zI_I, if_neg (by omega), zI_A]; exact hW2.2.1
      · rw [zI_I, if_neg (by omega), zI_A]; exact hW2.2.2.1
      · rw [zA_I, zA_A, if_neg (by omega)]; exact hW2.2.2.2.1 i hi
  · rw [p1, p2, obd_s, if_pos rfl, bnd_e]
    obtain ⟨q1, q2, q3, q4⟩ := STo_no (mc := mc) (P := P) (v := 6) f1 f2 (by decide)
    exact ⟨_, _, rfl, rfl, fMC_g q1, fMR_g q2, TPr_f (fMC_I (by omega)) (fMR_I (by omega)) hT2, q3, fun e => absurd (by rw [zI_I, if_pos ⟨rfl, rfl⟩] at e; exact e) (by decide)⟩
end
