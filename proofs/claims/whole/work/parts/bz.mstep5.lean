/-! THE MACHINE: input, the end, one step -/
section
variable {ln : Nat → Nat} {N M mc c sz io : Nat} {C : Nat → Int32} {P : yP} {mem : Nat → Int32} {pc sp fp g h : Nat} {L : List (Nat × Nat × Nat × Nat)} {σ τ x y : zSt}
theorem STx_no {v : Int32} {u w : zSt} (f1 : gMC σ u) (f2 : gMR τ w) (hT : TPr io u w) (hv : v ≠ 0) : STx mc io P σ τ (zsI u 7 6 v) (zsI w 0 75 v) := by
  refine ⟨⟨fun o k a b => (by rw [zI_I, if_neg (by omega)]; exact f1.1 o k a b), f1.2⟩, ⟨fun j a b c => (by rw [zI_I, if_neg (by omega)]; exact f2.1 j a b c), f2.2⟩, TPr_f (fMC_I (by omega)) (fMR_I (by omega)) hT, by rw [zI_I, if_pos ⟨rfl, rfl⟩, zI_I, if_pos ⟨rfl, rfl⟩], fun e => absurd (by rw [zI_I, if_pos ⟨rfl, rfl⟩] at e; exact e) hv⟩
theorem i35 (h24 : ln 24 = io) (hio : io ≤ 4096) (hT : TPr io σ τ) (hA : TAt σ τ) (hI : MIN ln mc c sz C P mem pc sp fp g h L σ τ) (ho : C pc = 35) (hn : WF P g (pc + 1) (h + 1)) : STq ln N M mc io P σ τ := by
  obtain ⟨⟨e1, e2, e3, e4, e5, e6, e7, e8, e9⟩, hV, hW, hs, hg, hm, hsp, hp⟩ := hI
  obtain ⟨x, y, a1, a2, a3⟩ := actR (N := N) e4 e5 e2 e6 e7 hW hp
  unfold STq
  rw [exCt e3 hV hp (by rw [ho]; decide), a1, ho, b84hi (by decide), b113x (by decide), ctl35]
  have hr : fX12_acts N 35 x y τ = bnd (zsI τ 0 72 ((zI τ 0 72) + (1 : Int32))) (fun σ21 => if (zI σ21 0 12) = (zI σ21 0 11) then (bnd (zsI σ21 0 75 (5 : Int32)) (fun σ27 => some ((), σ27))) else (obd (fX12_hasRoom N (1 : Int32) σ21) (fun r22 σ23 => if r22 = 0 then some ((), σ23) else (if (zI σ23 0 12) < 0 ∨ 4096 ≤ (zI σ23 0 12).toNatClampNeg then none else (if (zI σ23 0 73) < 0 ∨ 4096 ≤ (zI σ23 0 73).toNatClampNeg then none else (bnd (zsA σ23 3 (zI σ23 0 73).toNatClampNeg (zA σ23 4 (zI σ23 0 12).toNatClampNeg)) (fun σ24 => bnd (zsI σ24 0 73 ((zI σ24 0 73) + (1 : Int32))) (fun σ25 => bnd (zsI σ25 0 12 ((zI σ25 0 12) + (1 : Int32))) (fun σ26 => some ((), σ26)))))))) )) := rfl
  rw [hr, hW.1, show nI pc + (1 : Int32) = nI (pc + 1) from nI_add _ 1, bnd_e]
  unfold fX3_takeInput fX8_hasInput fX8_nextInput
  have f1 : fMC σ (zsI σ 7 3 (nI (pc + 1))) := fMC_I (by omega)
  have f2 : fMR τ (zsI τ 0 72 (nI (pc + 1))) := fMR_I (by omega)
  have hV2 : MV mc mem (pc + 1) sp fp (zsI σ 7 3 (nI (pc + 1))) := MV_I3 hV
  have hW2 : MW mc mem (pc + 1) sp fp (zsI τ 0 72 (nI (pc + 1))) := MW_I2 hW
  have hT2 := TPr_f f1 f2 hT
  have hA2 := TAt_f f1 f2 hA
  have h82 := (f2.1 8 (by omega)).trans e5
  revert f1 f2 hV2 hW2 hT2 hA2 h82
  generalize zsI σ 7 3 (nI (pc + 1)) = u
  generalize zsI τ 0 72 (nI (pc + 1)) = w
  intro f1 f2 hV2 hW2 hT2 hA2 h82
  obtain ⟨j, i, t1, t2, t3, t4⟩ := hA2
  have hT3 := hT2
  obtain ⟨i', o, q1, q2, q3, q4, q5, q6, q7, q8⟩ := hT3
  have hi' : i' ≤ io := q3
  have ei : i = i' := by
    have := congrArg Int32.toInt (t3.symm.trans q1)
    have hi : zI u 6 2 = nI i := t3
    rw [nI_toInt (by omega), nI_toInt (by omega)] at this
    omega
  subst ei
  rw [h24, t3, t1, t2, q2]
  by_cases cj : j = i
  · rw [cj, if_pos (Int32.le_refl _), obd_s, if_pos rfl, bnd_e, if_pos rfl, bnd_e]
    exact ⟨_, _, rfl, rfl, STx_no (fMC_g f1) (fMR_g f2) hT2 (by decide)⟩
  · rw [if_neg (fun w => by rw [nI_le' (by omega) (by omega)] at w; omega), if_neg (fun w => by rw [nI_le' (by omega) (by omega)] at w; omega), obd_s, if_neg (by decide), t3, t1, if_neg (fun w => by rw [nI_le' (by omega) (by omega)] at w; omega), if_pos ((nI_ltI (by omega) (by omega)).mpr (by omega)), show nI j + (1 : Int32) = nI (j + 1) from nI_add _ 1, bnd_e, show zI (zsI u 6 3 (nI (j + 1))) 6 3 = nI (j + 1) by rw [zI_I, if_pos ⟨rfl, rfl⟩], show nI (j + 1) - (1 : Int32) = nI j from nI_sb j 1, nI_clamp (by omega), if_neg (ixN (by omega) (by omega)), obd_s, obd_u]
    rw [if_neg (fun w => by have := congrArg Int32.toInt w; rw [nI_toInt (by omega), nI_toInt (by omega)] at this; omega), show (1 : Int32) = nI 1 from rfl, rroomR (k := 1) h82 e2 (by omega) hW2 hs]
    have hV3 : MV mc mem (pc + 1) sp fp (zsI u 6 3 (nI (j + 1))) := ⟨by rw [zI_I, if_neg (by omega)]; exact hV2.1, by rw [zI_I, if_neg (by omega)]; exact hV2.2.1, by rw [zI_I, if_neg (by omega)]; exact hV2.2.2.1, hV2.2.2.2.1, by rw [zI_I, if_neg (by omega)]; exact hV2.2.2.2.2⟩
    have ev : zA (zsI u 6 3 (nI (j + 1))) 24 j = zA w 4 j := q7 j (by omega)
    have g1 : gMC σ (zsI u 6 3 (nI (j + 1))) := ⟨fun o k a b => (by rw [zI_I, if_neg (by omega)]; exact f1.1 o k a), f1.2.1, f1.2.2.1, fun a i c1 _ => f1.2.2.2.1 a i c1, f1.2.2.2.2⟩
    have hT4 : TPr io (zsI u 6 3 (nI (j + 1))) w := ⟨i, o, by rw [zI_I, if_neg (by omega)]; exact q1, q2, q3, by rw [zI_I, if_neg (by omega)]; exact q4, q5, q6, q7, q8⟩
    rw [mpushC e1 e2 hV3 hs, ev]
    by_cases cs : sp < mc
    · rw [if_pos cs, if_pos (show sp + 1 ≤ mc by omega), obd_s, if_neg (by decide), t2, nI_clamp (by omega), if_neg (ixN (by omega) (by omega)), hW2.2.1, nI_clamp (by omega), if_neg (ixN (by omega) (by omega)), bnd_e, zI_A, hW2.2.1, nI_add, bnd_e, show zI (zsI (zsA w 3 sp (zA w 4 j)) 0 73 (nI (sp + 1))) 0 12 = nI j by rw [zI_I, if_neg (by omega), zI_A]; exact t2, nI_add, bnd_e]
      have hVf := MV_I4 (p := sp + 1) (MV_A (p := sp) (v := zA w 4 j) hV3)
      have hWf := MW_I3 (p := sp + 1) (MW_A (p := sp) (v := zA w 4 j) hW2)
      have z75 : zI (zsI (zsI (zsA w 3 sp (zA w 4 j)) 0 73 (nI (sp + 1))) 0 12 (nI (j + 1))) 0 75 = 0 := by rw [zI_I, if_neg (by omega)]; exact hWf.2.2.2.2
      refine ⟨_, _, rfl, rfl, ⟨fun o k a b => ?_, g1.2.1, g1.2.2.1, fun a i c1 c2 => ?_, g1.2.2.2.2⟩, ⟨fun k c1 c2 c3 => ?_, fun a i c1 c2 => ?_, fun a i => f2.2.2 a i⟩, ⟨i, o, ?_, ?_, q3, ?_, ?_, q6, fun k hk => ?_, fun k hk => ?_⟩, ?_, fun _ => ⟨⟨j + 1, i, ?_, ?_, ?_, by omega⟩, mset mem sp (zA w 4 j), pc + 1, sp + 1, fp, hVf, ⟨?_, ?_, ?_, fun i hi => ?_, z75⟩, by omega, MSt_in hg hm (mset_lo (by omega)) hn (by omega)⟩⟩
      · rw [zI_I, if_neg (by omega), zI_A]; exact g1.1 o k a b
      · rw [zA_I, zA_A, if_neg (by omega)]; exact g1.2.2.2.1 a i c1 c2
      · rw [zI_I, if_neg (by omega), zI_I, if_neg (by omega), zI_A]; exact f2.1 k c1
      · rw [zA_I, zA_I, zA_A, if_neg (by omega)]; exact f2.2.1 a i c1
      · rw [zI_I, if_neg (by omega), zI_A, zI_I, if_neg (by omega)]; exact q1
      · rw [zI_I, if_neg (by omega), zI_I, if_neg (by omega), zI_A]; exact q2
      · rw [zI_I, if_neg (by omega), zI_A, zI_I, if_neg (by omega)]; exact q4
      · rw [zI_I, if_neg (by omega), zI_I, if_neg (by omega), zI_A]; exact q5
      · rw [zA_I, zA_A, if_neg (by omega), zA_I, zA_I, zA_I, zA_A, if_neg (by omega)]; exact q7 k hk
      · rw [zA_I, zA_A, if_neg (by omega), zA_I, zA_I, zA_I, zA_A, if_neg (by omega)]; exact q8 k hk
      · rw [hVf.2.2.2.2, z75]
      · rw [zI_I, if_neg (by omega), zI_A, zI_I, if_pos ⟨rfl, rfl⟩]
      · rw [zI_I, if_pos ⟨rfl, rfl⟩]
      · rw [zI_I, if_neg (by omega), zI_A, zI_I, if_neg (by omega)]; exact q1
      · rw [zI_I, if_neg (by omega)]; exact hWf.1
      · rw [zI_I, if_neg (by omega)]; exact hWf.2.1
      · rw [zI_I, if_neg (by omega)]; exact hWf.2.2.1
      · rw [zA_I]; exact hWf.2.2.2.1 i hi
    · rw [if_neg cs, if_neg (show ¬ sp + 1 ≤ mc by omega), obd_s, if_pos rfl]
      exact ⟨_, _, rfl, rfl, STx_no g1 (fMR_g f2) hT4 (by decide)⟩
theorem iEnd (h25 : ln 25 = io) (hio : io ≤ 4096) (h10 : zI τ 0 10 = nI io) (hT : TPr io σ τ) (E : MEN ln mc c sz C P σ τ) (hV : MV mc mem pc (sp + 1) fp σ) (hW : MW mc mem pc (sp + 1) fp τ) (hs : sp + 1 ≤ mc) (hp : pc < sz) (ho : C pc = 0) : STq ln N M mc io P σ τ := by
  obtain ⟨e1, e2, e3, e4, e5, e6, e7, e8, e9⟩ := E
  obtain ⟨x, y, a1, a2, a3⟩ := actR (N := N) e4 e5 e2 e6 e7 hW hp
  unfold STq
  rw [exMv e3 hV hp (by rw [ho]; decide), a1, ho, b84lo (by decide)]
  have hc : ∀ u, fX3_move ln N M 0 u = fX3_comeOut ln N M 1 u := fun u => by
    show obd (fX3_comeOut ln N M 1 u) (fun _ s => some ((), s)) = _
    exact obd_u
  have hr : fX12_act_b113 N 0 x y τ = fX12_ends N τ := by
    show obd (fX12_ends N τ) (fun _ s => some ((), s)) = _
    exact obd_u
  rw [hc, hr]
  unfold fX3_comeOut fX3_comeOut_b21 fX12_ends fX12_ends_b31
  rw [mpopC e1 e2 (MV_I3 hV) (by omega), obd_s, hW.2.1, show nI (sp + 1) - (1 : Int32) = nI sp from nI_sb sp 1, nI_clamp (by omega), if_neg (ixN (by omega) (by omega)), hW.2.2.2.1 sp (by omega)]
  have f1 : fMC σ (zsI (zsI σ 7 3 (nI (pc + 1))) 7 4 (nI sp)) := fMC_trans (fMC_I (by omega)) (fMC_I (by omega))
  have hT2 := TPr_f f1 (fMR_refl (τ := τ)) hT
  revert f1 hT2
  generalize zsI (zsI σ 7 3 (nI (pc + 1))) 7 4 (nI sp) = u
  intro f1 hT2
  rcases outO (ln := ln) (N := N) (M := M) (v := mem sp) h25 hio h10 hT2 with ⟨o, c, p1, p2, p3⟩ | ⟨p1, p2⟩
  · rw [p1, p2, obd_s, obd_s, if_neg (by decide), bnd_e, show zI (zsI (zsA τ 5 o (mem sp)) 0 14 (nI (o + 1))) 0 75 = 0 by rw [zI_I, if_neg (by omega), zI_A]; exact hW.2.2.2.2, if_pos rfl, bnd_e]
    refine ⟨_, _, rfl, rfl, STx_no ⟨fun o' k c1 c2 => ?_, f1.2.1, f1.2.2.1, fun a i c1 c2 => ?_, f1.2.2.2.2⟩ ⟨fun j c1 c2 c3 => ?_, fun a i c1 c2 => ?_, fun _ _ => rfl⟩ p3 (by decide)⟩
    · rw [zI_I, if_neg (by omega), zI_A]; exact f1.1 o' k c1
    · rw [zA_I, zA_A, if_neg (by omega)]; exact f1.2.2.2.1 a i c1
    · rw [zI_I, if_neg (by omega), zI_A]
    · rw [zA_I, zA_A, if_neg (by omega)]
  · rw [p1, p2, obd_s, obd_s, if_pos rfl, bnd_e, show zI (zsI τ 0 75 6) 0 75 = 6 by rw [zI_I, if_pos ⟨rfl, rfl⟩], if_neg (by decide), bnd_e]
    have hw : ∀ k, zI (zsI (zsI τ 0 75 6) 0 75 6) 0 k = zI (zsI τ 0 75 6) 0 k := fun k => by
      rw [zI_I]
      by_cases e : k = 75
      · rw [if_pos ⟨rfl, e⟩, e, zI_I, if_pos ⟨rfl, rfl⟩]
      · rw [if_neg (by omega)]
    exact ⟨_, _, rfl, rfl, STx_no (fMC_g f1) (fMR_g (fMR_I (by omega))) (TPr_f fMC_refl (fMR_I (by omega)) hT2) (by decide)⟩
/-- one step of both machines -/
theorem stepM {v m : Nat} (hN : 5000 ≤ N) (h24 : ln 24 = io) (h25 : ln 25 = io) (hio : io ≤ 4096) (h10 : zI τ 0 10 = nI io) (hT : TPr io σ τ) (hA : TAt σ τ) (E : MEN ln mc c sz C P σ τ) (hcw : cw C 0 (prL P (nI v) P.1.2.2.2.2)) (h99 : ∀ i, sz ≤ i → C i = -99) (hm : isF P m) (hm0 : npF P m = 0) (hv : v = szN P m)
    (hV : MV mc mem pc sp fp σ) (hW : MW mc mem pc sp fp τ) (hs : sp ≤ mc) (hM : MSt P mem pc sp fp) : STq ln N M mc io P σ τ := by
  have E' := E
  obtain ⟨e1, e2, e3, e4, e5, e6, e7, e8, e9⟩ := E'
  have hsz : 4 ≤ sz := by
    rw [← e9, e8.2.1]
    exact szN_mono (P := P) (Nat.zero_le _)
  obtain ⟨c1, c2⟩ := cw_app (l := [32, nI v, 0, 0]) (r := prF P P.1.2.2.2.2) hcw
  have hfcd : ∀ g, isF P g → cw C (szN P g) (fcd P g) := fun g hg => cw_prF P.1.2.2.2.2 c2 g hg.1 hg.2
  have n99 : ∀ k, k < 2 ^ 31 → nI k ≠ -99 := fun k hk w => by
    have := congrArg Int32.toInt w
    rw [nI_toInt hk] at this
    have z0 : (-99 : Int32).toInt = -99 := rfl
    omega
  rcases hM with ⟨rfl, h2, h3⟩ | ⟨rfl, h2, h3⟩ | ⟨g, L, hg, hmc, hrest⟩
  · refine STq_of (callO E hV hW hs (by omega) (c1 0 _ rfl) (c1 1 _ rfl) (fun _ => Or.inr (Or.inr ⟨m, [], hm, ⟨by omega, hm0, ?_, ?_⟩, Or.inl ⟨hv, rfl⟩⟩))) hT hA
    · rw [mset_o (by omega), h2]
      exact if_pos rfl
    · rw [h2, h3]
      exact if_pos rfl
  · subst h2
    exact iEnd h25 hio h10 hT E hV hW hs (by omega) (c1 3 _ rfl)
  · have hsg := szN_s hg.2
    have hsg2 := szN_mono (P := P) (show g + 1 ≤ P.1.2.2.2.2 from hg.1)
    have hsg3 := e8.2.1
    rcases hrest with ⟨h1, h2⟩ | ⟨h, hw, hsp⟩
    · have hc := hfcd g hg
      rw [← h1] at hc
      exact STq_of (i37 hN E hV hW hs hg hmc h1 h2 (hc 0 _ rfl) (hc 1 _ rfl) (by omega)) hT hA
    · have hin := WF_in e8 hg hw
      have hI : MIN ln mc c sz C P mem pc sp fp g h L σ τ := ⟨E, hV, hW, hs, hg, hmc, hsp, by omega⟩
      rcases WF_ck e8 hg (hfcd g hg) hw with k | k | k | k | k | k | k | k | k | k | k | k | k | k | k | k
      · exact STq_of (i1 hI k.1 k.2) hT hA
      · obtain ⟨k1, ⟨x, k2, k3⟩, k4⟩ := k
        exact STq_of (i2 hI k1 k2 k3 k4) hT hA
      · obtain ⟨k1, ⟨x, k2, k3⟩, k4, k5⟩ := k
        exact STq_of (i3 hI k1 k2 k3 k4 k5) hT hA
      · obtain ⟨k1, ⟨x, k2, k3⟩, k4⟩ := k
        exact STq_of (i4 hI k1 k2 k3 k4) hT hA
      · obtain ⟨k1, ⟨x, k2, k3⟩, k4, k5⟩ := k
        exact STq_of (i5 hI k1 k2 k3 k4 k5) hT hA
      · obtain ⟨k1, ⟨x, n, k2, k3, k4⟩, k5, k6⟩ := k
        exact STq_of (i6 hI k1 k2 k3 k4 k5 k6) hT hA
      · obtain ⟨k1, ⟨x, n, k2, k3, k4⟩, k5, k6⟩ := k
        exact STq_of (i7 hI k1 k2 k3 k4 k5 k6) hT hA
      · obtain ⟨o, k1, k2, k3, k4⟩ := k
        exact STq_of (i8 hI k1 k2 k3 k4) hT hA
      · obtain ⟨o, k1, k2, k3, k4, k5⟩ := k
        exact STq_of (i9 hI k1 k2 k3 k4 k5) hT hA
      · obtain ⟨k1, t, k2, k3⟩ := k
        have ht := WF_in e8 hg k3
        have hb := e8.2.2.1
        refine STq_of (i30 hI k1 k2 (Nat.lt_of_not_le (fun w => ?_)) k3) hT hA
        rw [h99 _ w] at k2
        exact n99 t (by omega) k2.symm
      · obtain ⟨k1, k2, ⟨t, k3, k4⟩, k5⟩ := k
        exact STq_of (i31 hI k1 k2 k3 k4 k5) hT hA
      · obtain ⟨k1, f, m', k2, k3, k4, k5, k6, k7, k8, k9⟩ := k
        have hf : isF P f := ⟨by have : f < g + 1 := k2; have := hg.1; omega, k3⟩
        have hnp : npF P f = m' := by
          unfold npF
          rw [show P.1.2.2.2.1 f = nI m' from k4, nI_clamp (by omega)]
        exact STq_of (i32 hI k1 hf hnp k6 k8 k9) hT hA
      · obtain ⟨k1, k2, k3⟩ := k
        have hb := (e8.1 g hg).2.1
        refine STq_of (i33 hI k1 k2 (Nat.lt_of_not_le (fun w => ?_)) k3) hT hA
        rw [h99 _ w] at k2
        exact n99 _ (by omega) k2.symm
      · exact i34 h25 hio h10 hT hA hI k.1 k.2.1 k.2.2
      · exact i35 h24 hio hT hA hI k.1 k.2
      · exact STq_of (i36 hI k.1 k.2.1 k.2.2) hT hA
end
