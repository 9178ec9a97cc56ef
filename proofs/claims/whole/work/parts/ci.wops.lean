/-! THE TEXT BY ITSELF: operations -/
section
variable {ln : Nat → Nat} {N M mc io c m n e b0 g : Nat} {P : yP} {vl lc gb : Nat → Int32} {I : List aI} {Fr' : List (Nat × Nat)} {σ τ : zSt} {A B D : fT} {v w : Int} {i j : Int32}
def OPo (ln : Nat → Nat) (N M : Nat) (P : yP) (m c mc io : Nat) (i j : Int32) (σ τ : zSt) : Prop := ∃ σ' τ', fX10_finish ln N M j σ = some ((), σ') ∧ fX12_ops N i τ = some ((), τ') ∧ WO P m c mc io σ τ σ' τ'
theorem o4 (h : BX ln mc io c P m vl lc gb (n + 1) e I b0 g Fr' σ τ) (h0 : 0 ≤ v) (h1 : 1 ≤ w) (h2 : v + w ≤ P.2.1) (hr : rp P τ (fN 4 v w A B D) i) (hp : cp P c σ (npF P g) (fN 4 v w A B D) j) (hk : okW P I 1 (n + 1) (g :: Fr'.map Prod.snd)) : OPo ln N M P m c mc io i j σ τ := by
  obtain ⟨E, W, hg, hb, hl⟩ := h
  obtain ⟨e1, e2, -⟩ := id E
  have hc9 := e2.1
  have hmc := e1.2.2.2.2.2.2.2.2.2.1
  obtain ⟨a, rfl, ha, a1, a2, a3, -⟩ := rp_N hr
  obtain ⟨b, rfl, hb2, b1, b2, -, -, b3, -⟩ := cp_N hp
  rw [ofInt_n h0] at a2
  rw [ofInt_n (show 0 ≤ w by omega)] at a3
  have b2' : zA σ (6 * c - 20) b = nI v.toNat := by rw [← ofInt_n h0]; exact b2
  have b3' : zA σ (6 * c - 18) b = nI w.toNat := by rw [← ofInt_n (show 0 ≤ w by omega)]; exact b3 rfl
  obtain ⟨σ1, τ1, p1, p2, p3, f1, f2⟩ := popV (N := N) (M := M) e1 (by omega) W e2.1
  have e21 := TRc_f f1 e2
  have hC : fX10_finish ln N M (nI b) σ = fX10_finishItem ln N M (nI b) σ := by
    unfold fX10_finish
    rw [rbT e2.1 e2.2.1, (tkC e2 hb2).1, obd_s, b1]
    exact obd_u
  have hR : fX12_ops N (nI a) τ = obd (fX12_goes N τ) (fun r14 σ15 => if r14 < 0 then fX12_ops_b29 N σ15 else (if (nI a) < 0 ∨ 4200 ≤ (nI a).toNatClampNeg then none else (if r14 < (zA σ15 20 (nI a).toNatClampNeg) then (if (nI a) < 0 ∨ 4200 ≤ (nI a).toNatClampNeg then none else (if ((zA σ15 19 (nI a).toNatClampNeg) + r14) < 0 ∨ 4096 ≤ ((zA σ15 19 (nI a).toNatClampNeg) + r14).toNatClampNeg then none else (obd (fX12_gives N (zA σ15 42 ((zA σ15 19 (nI a).toNatClampNeg) + r14).toNatClampNeg) σ15) (fun _ σ18 => some ((), σ18))))) else fX12_ops_b29 N σ15))) := by
    unfold fX12_ops
    rw [nI_clamp (by omega), if_neg (ixN (by omega) (by omega)), a1]
    rfl
  unfold OPo
  rw [hC, hR]
  unfold fX10_finishItem fX10_finishItem_b21 fX12_ops_b29
  have hco : fX9_cOf ln N M (c + 2) (nI b) σ1 = some (nI w.toNat, σ1) := by rw [(tkC e21 hb2).2.2.2.1, f1.2.2.2.1 (6 * c - 18) b (by omega) (by omega), b3']
  have hao : fX9_aOf ln N M (c + 2) (nI b) σ1 = some (nI v.toNat, σ1) := by rw [(tkC e21 hb2).2.1, f1.2.2.2.1 (6 * c - 20) b (by omega) (by omega), b2']
  rw [p1, p2, obd_s, obd_s]
  by_cases c1 : vl n < 0
  · rw [if_pos c1, if_pos c1, bnd_e, bnd_e]
    exact ⟨_, _, rfl, rfl, WO_no f1 f2 p3.2.2.2.2.1 (by decide)⟩
  · rw [if_neg c1, if_neg c1, rbT e21.1 e21.2.1, hco, obd_s, nI_clamp (by omega), if_neg (ixN (by omega) (by omega)), f2.2.1 20 a (by omega) (by omega), a3]
    by_cases c2 : vl n < nI w.toNat
    · obtain ⟨q, hq, eq, -, -, -⟩ := pk_mu c1 (Int32.not_le.mpr c2) (by omega)
      obtain ⟨σ2, τ2, q1, q2, q3, f3, f4⟩ := pushV (N := N) (M := M) (v := gb (v.toNat + q)) e1 (by omega) p3 e2.1
      rw [if_pos c2, if_pos c2, rbT e21.1 e21.2.1, hao, obd_s, eq, nI_add, wgaC e1 p3.1 (show v.toNat + q < P.2.1 by omega) (by omega), obd_s, q1, obd_s, if_neg (ixN (by omega) (by omega)), f2.2.1 19 a (by omega) (by omega), a2, nI_add, nI_clamp (by omega), if_neg (ixN (by omega) (by omega)), p3.2.1.2.2.2.2.2.2.1 (v.toNat + q) (by omega), q2, obd_s]
      exact ⟨_, _, rfl, rfl, WO_ok (fWC_trans f1 f3) (fWR_trans f2 f4) q3 hk (by omega) (by omega) (by omega)⟩
    · rw [if_neg c2, if_neg c2, bnd_e, bnd_e]
      exact ⟨_, _, rfl, rfl, WO_no f1 f2 p3.2.2.2.2.1 (by decide)⟩
theorem o5 (h : BX ln mc io c P m vl lc gb (n + 1) e I b0 g Fr' σ τ) (hr : rp P τ (fN 5 v w A B D) i) (hp : cp P c σ (npF P g) (fN 5 v w A B D) j) (hk : okW P I 1 (n + 1) (g :: Fr'.map Prod.snd)) : OPo ln N M P m c mc io i j σ τ := by
  obtain ⟨E, W, hg, hb, hl⟩ := h
  obtain ⟨e1, e2, -⟩ := id E
  have hc9 := e2.1
  have hmc := e1.2.2.2.2.2.2.2.2.2.1
  obtain ⟨a, rfl, ha, a1, a2, a3, -⟩ := rp_N hr
  obtain ⟨b, rfl, hb2, b1, b2, -⟩ := cp_N hp
  have b2' : zA σ (6 * c - 20) b = Int32.ofInt v := b2
  obtain ⟨σ1, τ1, p1, p2, p3, f1, f2⟩ := popV (N := N) (M := M) e1 (by omega) W e2.1
  obtain ⟨x, x1, x2⟩ := un_eq (ln := ln) (N := N) (M := M) (o := Int32.ofInt v) (a := vl n) (σ := σ1) (τ := τ1)
  obtain ⟨σ2, τ2, q1, q2, q3, f3, f4⟩ := pushV (N := N) (M := M) (v := x) e1 (by omega) p3 e2.1
  refine ⟨σ2, τ2, ?_, ?_, WO_ok (fWC_trans f1 f3) (fWR_trans f2 f4) q3 hk (by omega) (by omega) (by omega)⟩
  · unfold fX10_finish
    rw [rbT e2.1 e2.2.1, (tkC e2 hb2).1, obd_s, b1, show cKd 5 = 6 from rfl, if_neg (by decide), if_neg (by decide), if_pos rfl, rbT e2.1 e2.2.1, (tkC e2 hb2).2.1, obd_s, b2', p1, obd_s, x1, obd_s, q1, obd_s]
  · unfold fX12_ops
    rw [nI_clamp (by omega), if_neg (ixN (by omega) (by omega)), a1, if_neg (by decide), p2, obd_s, if_neg (ixN (by omega) (by omega)), f2.2.1 15 a (by omega) (by omega), a1, if_pos (show nI 5 = 5 from rfl), if_neg (ixN (by omega) (by omega)), f2.2.1 19 a (by omega) (by omega), a2, x2, obd_s, q2, obd_s]
theorem o6 (h : BX ln mc io c P m vl lc gb (n + 1 + 1) e I b0 g Fr' σ τ) (hv : (10 ≤ v ∧ v ≤ 23) ∨ v = 27 ∨ v = 28) (hr : rp P τ (fN 6 v w A B D) i) (hp : cp P c σ (npF P g) (fN 6 v w A B D) j) (hk : okW P I 1 (n + 1) (g :: Fr'.map Prod.snd)) : OPo ln N M P m c mc io i j σ τ := by
  obtain ⟨E, W, hg, hb, hl⟩ := h
  obtain ⟨e1, e2, -⟩ := id E
  have hc9 := e2.1
  have hmc := e1.2.2.2.2.2.2.2.2.2.1
  obtain ⟨a, rfl, ha, a1, a2, a3, -⟩ := rp_N hr
  obtain ⟨b, rfl, hb2, b1, b2, -⟩ := cp_N hp
  obtain ⟨o, rfl⟩ : ∃ o : Nat, v = (o : Int) := ⟨v.toNat, by omega⟩
  have hvn : (10 ≤ o ∧ o ≤ 23) ∨ o = 27 ∨ o = 28 := by omega
  have b2' : zA σ (6 * c - 20) b = nI o := b2
  have a2' : zA τ 19 a = nI o := a2
  have n8 : nI o ≠ 8 := fun w => by
    have := congrArg Int32.toInt w
    rw [nI_toInt (by omega)] at this
    have z8 : (8 : Int32).toInt = 8 := rfl
    omega
  have n9 : nI o ≠ 9 := fun w => by
    have := congrArg Int32.toInt w
    rw [nI_toInt (by omega)] at this
    have z8 : (9 : Int32).toInt = 9 := rfl
    omega
  obtain ⟨σ1, τ1, p1, p2, p3, f1, f2⟩ := popV (N := N) (M := M) e1 (by omega) W e2.1
  obtain ⟨σ2, τ2, q1, q2, q3, f3, f4⟩ := popV (N := N) (M := M) e1 (by omega) p3 e2.1
  have g2 := fWR_trans f2 f4
  have hC : fX10_finish ln N M (nI b) σ = (obd (fX11_dividesByZero ln N M (nI o) (vl (n + 1)) σ1) (fun r8 σ9 => if r8 = 0 then (obd (fX10_popValue ln N M σ9) (fun r10 σ11 => obd (fX11_ofTwo ln N M (nI o) r10 (vl (n + 1)) σ11) (fun r12 σ13 => obd (fX10_pushValue ln N M r12 σ13) (fun _ σ15 => some ((), σ15))))) else (bnd (zsI σ9 8 14 (2 : Int32)) (fun σ16 => some ((), σ16))))) := by
    unfold fX10_finish fX10_finishTwo
    rw [rbT e2.1 e2.2.1, (tkC e2 hb2).1, obd_s, b1, show cKd 6 = 7 from rfl, if_neg (by decide), if_neg (by decide), if_neg (by decide), if_pos rfl, rbT e2.1 e2.2.1, (tkC e2 hb2).2.1, obd_s, b2', p1, obd_s, if_neg n8, if_neg n9, obd_u]
  have hR : fX12_ops N (nI a) τ = (if vl (n + 1) = 0 then (if (nI a) < 0 ∨ 4200 ≤ a then none else (if (nI o) < (27 : Int32) then fX12_ops_b113 N (nI a) (vl (n + 1)) (vl n) τ2 else (bnd (zsI τ2 0 75 (2 : Int32)) (fun σ9 => some ((), σ9))))) else fX12_ops_b113 N (nI a) (vl (n + 1)) (vl n) τ2) := by
    unfold fX12_ops
    rw [nI_clamp (by omega), if_neg (ixN (by omega) (by omega)), a1, if_neg (by decide), p2, obd_s, if_neg (ixN (by omega) (by omega)), f2.2.1 15 a (by omega) (by omega), a1, if_neg (by decide), q2, obd_s, g2.2.1 19 a (by omega) (by omega), a2']
  unfold OPo
  rw [hC, hR, div_eq hvn]
  by_cases cz : vl (n + 1) = 0 ∧ 27 ≤ o
  · rw [if_pos cz, obd_s, if_neg (by decide), bnd_e, if_pos cz.1, if_neg (ixN (by omega) (by omega)), if_neg (fun w => by rw [show (27 : Int32) = nI 27 from rfl, nI_ltI (by omega) (by omega)] at w; omega), bnd_e]
    exact ⟨_, _, rfl, rfl, WO_no f1 g2 (by
      have e3 := congrArg Prod.snd (Option.some.inj (q2.symm.trans (wgoR (N := N) p3.2.1 (by omega))))
      have e4 : τ2 = zsI τ1 0 79 (nI n) := e3
      rw [e4]
      exact TPr_w (fun k hk => rfl) (fun j hj => by rw [zI_I, if_neg (by omega)]) (fun _ _ _ => rfl) (fun a i ha => rfl) p3.2.2.2.2.1) (by decide)⟩
  · obtain ⟨x, x1, x2⟩ := bin_eq (ln := ln) (N := N) (M := M) (a := vl n) (b := vl (n + 1)) (σ := σ2) (τ := τ2) hvn (fun e => Nat.lt_of_not_le (fun k => cz ⟨e, k⟩))
    obtain ⟨σ3, τ3, s1, s2, s3, f5, f6⟩ := pushV (N := N) (M := M) (v := x) e1 (by omega) q3 e2.1
    have hb113 : fX12_ops_b113 N (nI a) (vl (n + 1)) (vl n) τ2 = some ((), τ3) := by
      unfold fX12_ops_b113
      rw [nI_clamp (by omega), if_neg (ixN (by omega) (by omega)), g2.2.1 19 a (by omega) (by omega), a2', x2, obd_s, s2, obd_s]
    have hsame : (if vl (n + 1) = 0 then (if (nI a) < 0 ∨ 4200 ≤ a then none else (if (nI o) < (27 : Int32) then fX12_ops_b113 N (nI a) (vl (n + 1)) (vl n) τ2 else (bnd (zsI τ2 0 75 (2 : Int32)) (fun σ9 => some ((), σ9))))) else fX12_ops_b113 N (nI a) (vl (n + 1)) (vl n) τ2) = some ((), τ3) := by
      by_cases ce : vl (n + 1) = 0
      · rw [if_pos ce, if_neg (ixN (by omega) (by omega)), if_pos (by rw [show (27 : Int32) = nI 27 from rfl, nI_ltI (by omega) (by omega)]; exact Nat.lt_of_not_le (fun k => cz ⟨ce, k⟩)), hb113]
      · rw [if_neg ce, hb113]
    rw [hsame, if_neg cz, obd_s, if_pos rfl, q1, obd_s, x1, obd_s, s1, obd_s]
    exact ⟨_, _, rfl, rfl, WO_ok (fWC_trans f1 (fWC_trans f3 f5)) (fWR_trans g2 f6) s3 hk (by omega) (by omega) (by omega)⟩
theorem o78 {k : Nat} (hk7 : k = 7 ∨ k = 8) (h : BX ln mc io c P m vl lc gb (n + 1) e I b0 g Fr' σ τ) (hwB : wfg P g B 0 0) (hr : rp P τ (fN k v w A B D) i) (hp : cp P c σ (npF P g) (fN k v w A B D) j) (hk : okW P I 1 (n + 1) (g :: Fr'.map Prod.snd)) : ∃ σ' τ', fX10_finish ln N M j σ = some ((), σ') ∧ fX12_logic N i τ = some ((), τ') ∧ WO P m c mc io σ τ σ' τ' := by
  obtain ⟨E, W, hg, hb, hl⟩ := h
  obtain ⟨e1, e2, -⟩ := id E
  have hc9 := e2.1
  have hmc := e1.2.2.2.2.2.2.2.2.2.1
  obtain ⟨a, rfl, ha, a1, a2, a3, a4, a5, -⟩ := rp_N hr
  obtain ⟨b, rfl, hb2, b1, b2, -, -, -, -, b4, -⟩ := cp_N hp
  obtain ⟨σ1, τ1, p1, p2, p3, f1, f2⟩ := popV (N := N) (M := M) e1 (by omega) W e2.1
  have e21 := TRc_f f1 e2
  have hkd : cKd k = 7 := by rcases hk7 with e | e <;> subst e <;> rfl
  -- x: the first part's truth; s: what decides
  obtain ⟨x, hx⟩ : ∃ x : Int32, x = if vl n = 0 then 0 else 1 := ⟨_, rfl⟩
  obtain ⟨s, hs⟩ : ∃ s : Int32, s = if k = 8 then 1 else 0 := ⟨_, rfl⟩
  have hs01 : s = 0 ∨ s = 1 := by rw [hs]; split <;> simp
  have hva : cVa (fun g => nI (nst P g)) (npF P g) k v = if k = 7 then 8 else 9 := by rcases hk7 with e | e <;> subst e <;> rfl
  have hao : fX9_aOf ln N M (c + 2) (nI b) σ1 = some (if k = 7 then 8 else 9, σ1) := by rw [(tkC e21 hb2).2.1, f1.2.2.2.1 (6 * c - 20) b (by omega) (by omega), b2, hva]
  have hC : fX10_finish ln N M (nI b) σ = fX10_finishFirst_b18 ln N M (nI b) x s σ1 := by
    unfold fX10_finish fX10_finishTwo fX10_finishTwo_b26 fX10_finishTwo_b37 fX10_finishFirst
    rw [rbT e2.1 e2.2.1, (tkC e2 hb2).1, obd_s, b1, hkd, if_neg (by decide), if_neg (by decide), if_neg (by decide), if_pos rfl, rbT e2.1 e2.2.1, (tkC e2 hb2).2.1, obd_s, b2, hva, p1, obd_s, obd_u]
    rcases hk7 with e | e
    · subst e
      rw [if_pos rfl, if_pos rfl, hx, hs, if_neg (show ¬ (7 : Nat) = 8 by decide)]
      by_cases cz : vl n = 0
      · rw [if_pos cz, if_pos cz, rbT e21.1 e21.2.1, hao, obd_s, if_pos rfl, if_neg (by decide), obd_u]
      · rw [if_neg cz, if_neg cz, rbT e21.1 e21.2.1, hao, obd_s, if_pos rfl, if_neg (by decide), obd_u]
    · subst e
      rw [if_neg (show ¬ (8 : Nat) = 7 by decide), if_neg (by decide), if_pos rfl, hx, hs, if_pos (show (8 : Nat) = 8 from rfl)]
      by_cases cz : vl n = 0
      · rw [if_pos cz, if_pos cz, rbT e21.1 e21.2.1, hao, obd_s, if_neg (show ¬ (8 : Nat) = 7 by decide), if_pos rfl, obd_u]
      · rw [if_neg cz, if_neg cz, rbT e21.1 e21.2.1, hao, obd_s, if_neg (show ¬ (8 : Nat) = 7 by decide), if_pos rfl, obd_u]
  have hR : fX12_logic N (nI a) τ = fX12_logic_b29 N (nI a) x s τ1 := by
    unfold fX12_logic fX12_logic_b12
    rw [p2, obd_s, nI_clamp (by omega), f2.2.1 15 a (by omega) (by omega), a1, hx, hs]
    by_cases cz : vl n = 0
    · rw [if_pos cz, if_pos cz, if_neg (ixN (by omega) (by omega))]
      rcases hk7 with e | e
      · subst e
        rw [if_neg (show ¬ nI 7 = 8 by decide), if_neg (show ¬ (7 : Nat) = 8 by decide)]
      · subst e
        rw [if_pos (show nI 8 = 8 from rfl), if_pos rfl]
    · rw [if_neg cz, if_neg cz, if_neg (ixN (by omega) (by omega))]
      rcases hk7 with e | e
      · subst e
        rw [if_neg (show ¬ nI 7 = 8 by decide), if_neg (show ¬ (7 : Nat) = 8 by decide)]
      · subst e
        rw [if_pos (show nI 8 = 8 from rfl), if_pos rfl]
  rw [hC, hR]
  unfold fX10_finishFirst_b18 fX10_finishFirst_b34 fX12_logic_b29 fX12_logic_b45
  by_cases cs : x = s
  · rw [if_pos cs, if_pos cs, cs]
    obtain ⟨σ2, τ2, q1, q2, q3, f3, f4⟩ := pushV (N := N) (M := M) (v := s) e1 (by omega) p3 e2.1
    refine ⟨σ2, τ2, ?_, ?_, WO_ok (fWC_trans f1 f3) (fWR_trans f2 f4) q3 hk (by omega) (by omega) (by omega)⟩
    · rcases hs01 with h0 | h0
      · rw [if_pos h0, ← h0, q1, obd_s]
      · rw [if_neg (by rw [h0]; decide), ← h0, q1, obd_s]
    · rcases hs01 with h0 | h0
      · rw [if_pos h0, ← h0, q2, obd_s]
      · rw [if_neg (by rw [h0]; decide), ← h0, q2, obd_s]
  · rw [if_neg cs, if_neg cs]
    obtain ⟨σ2, τ2, q1, q2, q3, f3, f4⟩ := pushI (N := N) (M := M) (x := (6, fZ, 0)) (a := 2) (b := nI b) (a' := 5) (b' := -1) e1 (by omega) p3 e2.1 (by decide) (fun σ' τ' h1 h2 h3 h4 ht => by
      unfold slI
      rw [if_neg (show ¬ (6 : Nat) = 0 by decide), if_neg (show ¬ (6 : Nat) = 3 by decide), if_pos rfl]
      exact ⟨h3, h1⟩)
    have g1 := fWC_trans f1 f3
    have g2 := fWR_trans f2 f4
    have e22 := TRc_f g1 e2
    obtain ⟨σ3, τ3, s1, s2, s3, f5, f6⟩ := pushT (N := N) (M := M) (q := 1) e1 (by rw [List.length_cons]; omega) q3 e2.1 (by omega) rfl (rp_f (fun r s r1 r2 => g2.2.1 r s (by omega) (by omega)) a5) (cp_f e2.1 (fun r s r1 r2 => g1.2.2.2.1 r s (by omega) (by omega)) (b4 (by omega) (by omega)))
    have hco : fX9_cOf ln N M (c + 2) (nI b) σ2 = some (zA σ (6 * c - 18) b, σ2) := by rw [(tkC e22 hb2).2.2.2.1, g1.2.2.2.1 (6 * c - 18) b (by omega) (by omega)]
    have s1' : fX10_pushItem ln N M 0 (zA σ (6 * c - 18) b) σ2 = some ((), σ3) := s1
    have s2' : fX12_push N 2 (zA τ2 17 a) τ2 = some ((), τ3) := by rw [g2.2.1 17 a (by omega) (by omega)]; exact s2
    refine ⟨σ3, τ3, ?_, ?_, WO_ok (fWC_trans g1 f5) (fWR_trans g2 f6) s3 (md := 1) (Or.inr (Or.inr ⟨g, _, rfl, hg, Or.inl ⟨rfl, rfl, hwB, Or.inr (Or.inr ⟨g, _, rfl, hg, Or.inr (Or.inr (Or.inr (Or.inl ⟨rfl, rfl, by omega, hk⟩)))⟩)⟩⟩)) (by omega) (by rw [List.length_cons, List.length_cons]; omega) (by omega)⟩
    · rw [q1, obd_s, rbT e22.1 e22.2.1, hco, obd_s, s1', obd_s]
    · rw [q2, obd_s, nI_clamp (by omega), if_neg (ixN (by omega) (by omega)), s2', obd_s]
theorem o6t (h : BX ln mc io c P m vl lc gb (n + 1) e I b0 g Fr' σ τ) (hk : okW P I 1 (n + 1) (g :: Fr'.map Prod.snd)) : ∃ σ' τ', obd (fX10_popValue ln N M σ) (fun r8 σ9 => if r8 = 0 then fX10_takeItem_b137 ln N M (0 : Int32) σ9 else fX10_takeItem_b137 ln N M (1 : Int32) σ9) = some ((), σ') ∧ obd (fX12_goes N τ) (fun r11 σ12 => if r11 = 0 then fX12_takesItem_b116 N (0 : Int32) σ12 else fX12_takesItem_b116 N (1 : Int32) σ12) = some ((), τ') ∧ WO P m c mc io σ τ σ' τ' := by
  obtain ⟨E, W, hg, hb, hl⟩ := h
  obtain ⟨e1, e2, -⟩ := id E
  have hmc := e1.2.2.2.2.2.2.2.2.2.1
  obtain ⟨σ1, τ1, p1, p2, p3, f1, f2⟩ := popV (N := N) (M := M) e1 (by omega) W e2.1
  rw [p1, p2, obd_s, obd_s]
  unfold fX10_takeItem_b137 fX12_takesItem_b116
  by_cases cz : vl n = 0
  · obtain ⟨σ2, τ2, q1, q2, q3, f3, f4⟩ := pushV (N := N) (M := M) (v := 0) e1 (by omega) p3 e2.1
    rw [if_pos cz, if_pos cz, q1, q2, obd_s, obd_s]
    exact ⟨_, _, rfl, rfl, WO_ok (fWC_trans f1 f3) (fWR_trans f2 f4) q3 hk (by omega) (by omega) (by omega)⟩
  · obtain ⟨σ2, τ2, q1, q2, q3, f3, f4⟩ := pushV (N := N) (M := M) (v := 1) e1 (by omega) p3 e2.1
    rw [if_neg cz, if_neg cz, q1, q2, obd_s, obd_s]
    exact ⟨_, _, rfl, rfl, WO_ok (fWC_trans f1 f3) (fWR_trans f2 f4) q3 hk (by omega) (by omega) (by omega)⟩
end
