/-! THE TEXT BY ITSELF: a step, the loop -/
def rsR (N : Nat) (σ5 : zSt) : Option (Unit × zSt) := if (zI σ5 0 75) = 0 then (if ((((zI σ5 0 79) + (zI σ5 0 82)) + (zI σ5 0 29)) + (zI σ5 0 84)) ≤ (zI σ5 0 8) then (if (zI σ5 0 82) = 0 then (if ((zI σ5 0 79) - (1 : Int32)) < 0 ∨ 4120 ≤ ((zI σ5 0 79) - (1 : Int32)).toNatClampNeg then none else (obd (fX12_comesOut N (zA σ5 43 ((zI σ5 0 79) - (1 : Int32)).toNatClampNeg) σ5) (fun _ σ7 => if (zI σ7 0 75) = 0 then fX12_goesOn_b133 N (1 : Int32) σ7 else fX12_goesOn_b133 N (zI σ7 0 75) σ7))) else some ((), σ5)) else (bnd (zsI σ5 0 75 (4 : Int32)) (fun σ9 => some ((), σ9)))) else some ((), σ5)
/-- what comes of a step -/
def WSt (P : yP) (m c mc io : Nat) (σ τ σ' τ' : zSt) : Prop := fWC σ σ' ∧ fWR τ τ' ∧ TPr io σ' τ' ∧ zI σ' 8 14 = zI τ' 0 75 ∧ (zI τ' 0 75 = 0 → ∃ vl lc gb n e a I Fr md, WI P m c io vl lc gb n e (a :: I) Fr σ' τ' ∧ okW P (a :: I) md n (Fr.map Prod.snd) ∧ n + (I.length + 1) + P.2.1 + e ≤ mc)
section
variable {ln : Nat → Nat} {N M mc io c m n e : Nat} {P : yP} {vl lc gb : Nat → Int32} {I : List aI} {Fr : List (Nat × Nat)} {σ τ σ' τ' : zSt}
theorem chkW (hg : P.2.1 ≤ mc) (E : WEN ln mc io c P m σ' τ') (h : WO2 P m c mc io σ τ σ' τ') : ∃ σ'' τ'', (if zI σ' 8 14 = 0 then fX10_lookAround ln N M σ' else some ((), σ')) = some ((), σ'') ∧ rsR N τ' = some ((), τ'') ∧ WSt P m c mc io σ τ σ'' τ'' := by
  obtain ⟨e1, e2, e3, e4, e5, e6, e7, e8, e9, e10⟩ := id E
  have hmc := e1.2.2.2.2.2.2.2.2.2.1
  have hio := e1.2.2.2.2.2.2.2.2.2.2
  unfold rsR
  rcases h with h | ⟨f1, f2, hT, h14, h75, n', k', e', x1, x2, x3, x4, x5⟩
  · obtain ⟨f1, f2, hT, h14, hgo⟩ := h
    by_cases c0 : zI τ' 0 75 = 0
    · obtain ⟨vl, lc, gb, n, e, I, Fr, md, W, ho, b1, b2, b3⟩ := hgo c0
      have W' := W
      obtain ⟨w1, w2, w3, w4, w5, w6⟩ := W'
      rw [if_pos (h14.trans c0), if_pos c0]
      unfold fX10_lookAround
      rw [w1.1, w1.2.1, w1.2.2.2.1, e6, e7, w2.1, w2.2.1, w2.2.2.2.1, e5, e3, nI_add, nI_add, nI_add, nI_add]
      by_cases cr : n + I.length + P.2.1 + e ≤ mc
      · rw [if_pos ((nI_leS (by omega) (by omega) (by omega)).mpr (by omega)), if_pos ((nI_le' (by omega) (by omega)).mpr cr)]
        cases I with
        | nil =>
          obtain ⟨-, hn, -⟩ := ho
          subst hn
          rw [if_pos (show nI ([] : List aI).length = 0 from rfl), if_pos (show nI ([] : List aI).length = 0 from rfl), wppC (n := 0) e1 w1 (by omega), obd_s, show nI 1 - (1 : Int32) = nI 0 from nI_sb 0 1, nI_clamp (by omega), if_neg (ixN (by omega) (by omega)), w2.2.2.2.2.1 0 (by omega)]
          have f3 : fWC σ' (zsI σ' 8 10 (nI 0)) := fWC_I (by omega)
          have hT2 : TPr io (zsI σ' 8 10 (nI 0)) τ' := TPr_w (fun q hq => by rw [zI_I, if_neg (by omega)]) (fun _ _ => rfl) (fun _ _ _ => rfl) (fun _ _ _ => rfl) hT
          revert f3 hT2
          generalize zsI σ' 8 10 (nI 0) = u
          intro f3 hT2
          unfold fX10_lookAround_b62 fX12_goesOn_b133
          rcases outO (ln := ln) (N := N) (M := M) (v := vl 0) e1.2.1 hio e4 hT2 with ⟨o, co, p1, p2, p3⟩ | ⟨p1, p2⟩
          · rw [p1, p2, obd_s, obd_s, if_neg (by decide), bnd_e, show zI (zsI (zsA τ' 5 o (vl 0)) 0 14 (nI (o + 1))) 0 75 = 0 by rw [zI_I, if_neg (by omega), zI_A]; exact c0, if_pos rfl, bnd_e]
            refine ⟨_, _, rfl, rfl, fWC_trans f1 (fWC_trans f3 (fWC_trans (fWC_A (by omega)) (fWC_trans (fWC_I6 (by omega)) (fWC_I (by omega))))), fWR_trans f2 (fWR_trans (fWR_A (by omega)) (fWR_trans (fWR_I (by omega)) (fWR_I (by omega)))), ?_, ?_, fun w => ?_⟩
            · exact TPr_w (fun q hq => by rw [zI_I, if_neg (by omega)]) (fun q hq => by rw [zI_I, if_neg (by omega)]) (fun _ _ _ => rfl) (fun _ _ _ => rfl) p3
            · rw [zI_I, if_pos ⟨rfl, rfl⟩, zI_I, if_pos ⟨rfl, rfl⟩]
            · rw [zI_I, if_pos ⟨rfl, rfl⟩] at w; exact absurd w (by decide)
          · rw [p1, p2, obd_s, obd_s, if_pos rfl, bnd_e, show zI (zsI τ' 0 75 6) 0 75 = 6 by rw [zI_I, if_pos ⟨rfl, rfl⟩], if_neg (by decide), bnd_e]
            refine ⟨_, _, rfl, rfl, fWC_trans f1 (fWC_trans f3 (fWC_I (by omega))), fWR_trans f2 (fWR_trans (fWR_I (by omega)) (fWR_I (by omega))), ?_, ?_, fun w => ?_⟩
            · exact TPr_w (fun q hq => by rw [zI_I, if_neg (by omega)]) (fun q hq => by rw [zI_I, if_neg (by omega), zI_I, if_neg (by omega)]) (fun _ _ _ => rfl) (fun _ _ _ => rfl) hT2
            · rw [zI_I, if_pos ⟨rfl, rfl⟩, zI_I, if_pos ⟨rfl, rfl⟩]
            · rw [zI_I, if_pos ⟨rfl, rfl⟩] at w; exact absurd w (by decide)
        | cons a I =>
          rw [List.length_cons] at cr b2 ⊢
          have hne : nI (I.length + 1) ≠ 0 := fun w => by
            have := congrArg Int32.toInt w
            rw [nI_toInt (by omega)] at this
            have z0 : (0 : Int32).toInt = 0 := rfl
            omega
          rw [if_neg hne, if_neg hne]
          exact ⟨_, _, rfl, rfl, f1, f2, hT, h14, fun _ => ⟨vl, lc, gb, n, e, a, I, Fr, md, W, ho, by omega⟩⟩
      · rw [if_neg (fun w => by rw [nI_leS (by omega) (by omega) (by omega)] at w; omega), if_neg (fun w => by rw [nI_le' (by omega) (by omega)] at w; omega), bnd_e, bnd_e]
        refine ⟨_, _, rfl, rfl, fWC_trans f1 (fWC_I (by omega)), fWR_trans f2 (fWR_I (by omega)), ?_, ?_, fun w => ?_⟩
        · exact TPr_w (fun q hq => by rw [zI_I, if_neg (by omega)]) (fun q hq => by rw [zI_I, if_neg (by omega)]) (fun _ _ _ => rfl) (fun _ _ _ => rfl) hT
        · rw [zI_I, if_pos ⟨rfl, rfl⟩, zI_I, if_pos ⟨rfl, rfl⟩]
        · rw [zI_I, if_pos ⟨rfl, rfl⟩] at w; exact absurd w (by decide)
    · rw [if_neg (by rw [h14]; exact c0), if_neg c0]
      exact ⟨_, _, rfl, rfl, f1, f2, hT, h14, fun w => absurd w c0⟩
  · rw [if_neg (by rw [h14]; decide), if_pos h75, x1, x2, x3, e5, e3, nI_add, nI_add, nI_add, if_neg (fun w => by rw [nI_le' (by omega) (by omega)] at w; omega), bnd_e]
    refine ⟨_, _, rfl, rfl, f1, fWR_trans f2 (fWR_I (by omega)), ?_, ?_, fun w => ?_⟩
    · exact TPr_w (fun _ _ => rfl) (fun q hq => by rw [zI_I, if_neg (by omega)]) (fun _ _ _ => rfl) (fun _ _ _ => rfl) hT
    · rw [h14, zI_I, if_pos ⟨rfl, rfl⟩]
    · rw [zI_I, if_pos ⟨rfl, rfl⟩] at w; exact absurd w (by decide)
theorem goR {k : Nat} (h29 : zI τ 0 29 = nI P.2.1) (h8 : zI τ 0 8 = nI mc) (hmc : mc ≤ 4096) (hg : P.2.1 ≤ mc) (h82 : zI τ 0 82 = nI (k + 1)) (hk : k < 4120) : fX12_goesOn N τ = obd (fX12_takesItem N (zA τ 44 k) (zA τ 45 k) (zsI τ 0 82 (nI k))) (fun _ σ5 => rsR N σ5) := by
  unfold fX12_goesOn
  rw [h29, h8, if_pos ((nI_le' (by omega) (by omega)).mpr hg), h82, show nI (k + 1) - (1 : Int32) = nI k from nI_sb k 1, bnd_e, show zI (zsI τ 0 82 (nI k)) 0 82 = nI k by rw [zI_I, if_pos ⟨rfl, rfl⟩], nI_clamp (by omega), if_neg (ixN (by omega) (by omega)), bnd_e, if_neg (ixN (by omega) (by omega)), bnd_e, zA_I, zA_I]
  rfl
end
