/-! THE TEXT BY ITSELF: an S is done -/
section
variable {ln : Nat → Nat} {N M mc io c m n e b0 g : Nat} {P : yP} {vl lc gb : Nat → Int32} {I : List aI} {Fr' : List (Nat × Nat)} {σ τ : zSt} {A B D : fT} {v w : Int} {i j : Int32}
def DOo (ln : Nat → Nat) (N M : Nat) (P : yP) (m c mc io : Nat) (i j : Int32) (σ τ : zSt) : Prop := ∃ σ' τ', fX10_finish ln N M j σ = some ((), σ') ∧ fX12_does N i τ = some ((), τ') ∧ WO P m c mc io σ τ σ' τ'
theorem WI_l {q : Nat} {x : Int32} (hc : c = 9 ∨ c = 10) {Fr : List (Nat × Nat)} (W : WI P m c io vl lc gb n e I Fr σ τ) : WI P m c io vl (mset lc q x) gb n e I Fr (zsA σ 31 q x) (zsA τ 46 q x) ∧ fWC σ (zsA σ 31 q x) ∧ fWR τ (zsA τ 46 q x) := by
  obtain ⟨w1, w2, w3, w4, w5, w6⟩ := W
  have f1 : fWC σ (zsA σ 31 q x) := fWC_A (by omega)
  have f2 : fWR τ (zsA τ 46 q x) := fWR_A (by omega)
  refine ⟨⟨XC_l w1, XR_l w2, itR_f hc (fW_tr f1 f2) I _ (fun p hp => ?_) w3, frR_f (σ := σ) (τ := τ) _ e (fun p hp => ?_) w4, ?_, ?_⟩, f1, f2⟩
  · refine ⟨?_, ?_, ?_, ?_⟩ <;> rw [zA_A, if_neg (by omega)]
  · refine ⟨?_, ?_, ?_⟩ <;> rw [zA_A, if_neg (by omega)]
  · exact TPr_w (fun k hk => rfl) (fun j hj => rfl) (fun a i ha => by rw [zA_A, if_neg (by omega)]) (fun a i ha => by rw [zA_A, if_neg (by omega)]) w5
  · exact TAt_w (fun k hk => rfl) rfl w6
theorem WI_g {q : Nat} {x : Int32} (hc : c = 9 ∨ c = 10) {Fr : List (Nat × Nat)} (W : WI P m c io vl lc gb n e I Fr σ τ) : WI P m c io vl lc (mset gb q x) n e I Fr (zsA σ 30 q x) (zsA τ 42 q x) ∧ fWC σ (zsA σ 30 q x) ∧ fWR τ (zsA τ 42 q x) := by
  obtain ⟨w1, w2, w3, w4, w5, w6⟩ := W
  have f1 : fWC σ (zsA σ 30 q x) := fWC_A (by omega)
  have f2 : fWR τ (zsA τ 42 q x) := fWR_A (by omega)
  refine ⟨⟨XC_g w1, XR_g w2, itR_f hc (fW_tr f1 f2) I _ (fun p hp => ?_) w3, frR_f (σ := σ) (τ := τ) _ e (fun p hp => ?_) w4, ?_, ?_⟩, f1, f2⟩
  · refine ⟨?_, ?_, ?_, ?_⟩ <;> rw [zA_A, if_neg (by omega)]
  · refine ⟨?_, ?_, ?_⟩ <;> rw [zA_A, if_neg (by omega)]
  · exact TPr_w (fun k hk => rfl) (fun j hj => rfl) (fun a i ha => by rw [zA_A, if_neg (by omega)]) (fun a i ha => by rw [zA_A, if_neg (by omega)]) w5
  · exact TAt_w (fun k hk => rfl) rfl w6
theorem BX_w {vl' lc' gb' : Nat → Int32} {n' : Nat} {σ' τ' : zSt} (h : BX ln mc io c P m vl lc gb n e I b0 g Fr' σ τ) (hn : n' ≤ n) (f1 : fWC σ σ') (f2 : fWR τ τ') (W : WI P m c io vl' lc' gb' n' e I ((b0, g) :: Fr') σ' τ') : BX ln mc io c P m vl' lc' gb' n' e I b0 g Fr' σ' τ' := ⟨WEN_f f1 f2 h.1, W, h.2.2.1, by have := h.2.2.2.1; omega, h.2.2.2.2⟩
theorem d21 {k : Nat} (hk2 : k = 21 ∨ k = 27) (h : BX ln mc io c P m vl lc gb (n + 1) e I b0 g Fr' σ τ) (hv : plOk (npF P g) (P.2.2.2.2 g) v) (hr : rp P τ (fN k v w A B D) i) (hp : cp P c σ (npF P g) (fN k v w A B D) j) (hk : okW P I 0 n (g :: Fr'.map Prod.snd)) : DOo ln N M P m c mc io i j σ τ := by
  obtain ⟨e1, e2, -⟩ := id h.1
  have hb := h.2.2.2.1
  have hmc := e1.2.2.2.2.2.2.2.2.2.1
  obtain ⟨a, rfl, ha, a1, a2, -⟩ := rp_N hr
  obtain ⟨b, rfl, hb2, b1, b2, -⟩ := cp_N hp
  have b2' : zA σ (6 * c - 20) b = inF (npF P g) v := by rw [b2]; rcases hk2 with e | e <;> subst e <;> rfl
  obtain ⟨σ1, τ1, p1, p2, p3, f1, f2⟩ := popV (N := N) (M := M) e1 (by omega) h.2.1 e2.1
  obtain ⟨q, q1, q2, q3, q4, q5⟩ := locC (N := N) (M := M) (BX_w h (by omega) f1 f2 p3) hv
  obtain ⟨W2, f3, f4⟩ := WI_l (q := q) (x := vl n) e2.1 p3
  refine ⟨_, _, ?_, ?_, WO_ok (fWC_trans f1 f3) (fWR_trans f2 f4) W2 hk (by omega) (by omega) (by omega)⟩
  · have hgen : rbd (zR σ 8 8) 11 12 (fun q35 => obd (fX9_aOf ln N M q35 (nI b) σ) (fun r36 σ37 => obd (fX10_popValue ln N M σ37) (fun r38 σ39 => obd (fX10_setLocal ln N M r36 r38 σ39) (fun _ σ41 => some ((), σ41))))) = some ((), zsA σ1 31 q (vl n)) := by
      unfold fX10_setLocal
      rw [rbT e2.1 e2.2.1, (tkC e2 hb2).2.1, obd_s, b2', p1, obd_s, q4, obd_s, wfsC e1 (by omega), obd_s, obd_s]
    unfold fX10_finish
    rw [rbT e2.1 e2.2.1, (tkC e2 hb2).1, obd_s, b1]
    rcases hk2 with e | e
    · subst e; exact hgen
    · subst e; exact hgen
  · have hgen : (if (nI a) < 0 ∨ 4200 ≤ a then none else (obd (fX12_where N (zA τ1 19 a) τ1) (fun r4 σ5 => if r4 < 0 ∨ 5500 ≤ r4.toNatClampNeg then none else (bnd (zsA σ5 46 r4.toNatClampNeg (vl n)) (fun σ6 => some ((), σ6)))))) = some ((), zsA τ1 46 q (vl n)) := by
      rw [if_neg (ixN (by omega) (by omega)), f2.2.1 19 a (by omega) (by omega), a2, q5, obd_s, nI_clamp (by omega), if_neg (ixN (by omega) (by omega)), bnd_e]
    unfold fX12_does
    rw [p2, obd_s, nI_clamp (by omega), if_neg (ixN (by omega) (by omega)), f2.2.1 15 a (by omega) (by omega), a1, bnd_e]
    rcases hk2 with e | e
    · subst e; exact hgen
    · subst e; exact hgen
theorem d26 (h : BX ln mc io c P m vl lc gb (n + 1) e I b0 g Fr' σ τ) (h0 : 0 ≤ v) (h1 : v < P.2.1) (hr : rp P τ (fN 26 v w A B D) i) (hp : cp P c σ (npF P g) (fN 26 v w A B D) j) (hk : okW P I 0 n (g :: Fr'.map Prod.snd)) : DOo ln N M P m c mc io i j σ τ := by
  obtain ⟨e1, e2, -⟩ := id h.1
  have hb := h.2.2.2.1
  have hmc := e1.2.2.2.2.2.2.2.2.2.1
  obtain ⟨a, rfl, ha, a1, a2, -⟩ := rp_N hr
  obtain ⟨b, rfl, hb2, b1, b2, -⟩ := cp_N hp
  have b2' : zA σ (6 * c - 20) b = nI v.toNat := by rw [← ofInt_n h0]; exact b2
  rw [ofInt_n h0] at a2
  obtain ⟨σ1, τ1, p1, p2, p3, f1, f2⟩ := popV (N := N) (M := M) e1 (by omega) h.2.1 e2.1
  obtain ⟨W2, f3, f4⟩ := WI_g (q := v.toNat) (x := vl n) e2.1 p3
  refine ⟨_, _, ?_, ?_, WO_ok (fWC_trans f1 f3) (fWR_trans f2 f4) W2 hk (by omega) (by omega) (by omega)⟩
  · have hgen : rbd (zR σ 8 8) 11 12 (fun q28 => obd (fX9_aOf ln N M q28 (nI b) σ) (fun r29 σ30 => obd (fX10_popValue ln N M σ30) (fun r31 σ32 => obd (fX10_setGlobal ln N M r29 r31 σ32) (fun _ σ34 => some ((), σ34))))) = some ((), zsA σ1 30 v.toNat (vl n)) := by
      rw [rbT e2.1 e2.2.1, (tkC e2 hb2).2.1, obd_s, b2', p1, obd_s, wgsC e1 (by omega), obd_s]
    unfold fX10_finish
    rw [rbT e2.1 e2.2.1, (tkC e2 hb2).1, obd_s, b1, show cKd 26 = 14 from rfl, if_neg (by decide), if_neg (by decide), if_neg (by decide), if_neg (by decide), if_neg (by decide), if_neg (by decide), if_neg (by decide), if_neg (by decide), if_neg (by decide), if_neg (by decide), if_pos rfl]
    exact hgen
  · have hgen : (if (nI a) < 0 ∨ 4200 ≤ a then none else (if (zA τ1 19 a) < 0 ∨ 4096 ≤ (zA τ1 19 a).toNatClampNeg then none else (bnd (zsA τ1 42 (zA τ1 19 a).toNatClampNeg (vl n)) (fun σ23 => some ((), σ23))))) = some ((), zsA τ1 42 v.toNat (vl n)) := by
      rw [if_neg (ixN (by omega) (by omega)), f2.2.1 19 a (by omega) (by omega), a2, nI_clamp (by omega), if_neg (ixN (by omega) (by omega)), bnd_e]
    unfold fX12_does
    rw [p2, obd_s, nI_clamp (by omega), if_neg (ixN (by omega) (by omega)), f2.2.1 15 a (by omega) (by omega), a1, bnd_e, show nI 26 = 26 from rfl, if_neg (by decide), if_neg (by decide), if_neg (by decide), if_neg (by decide), if_neg (by decide), if_pos rfl]
    exact hgen
theorem d28 (h : BX ln mc io c P m vl lc gb (n + 1 + 1) e I b0 g Fr' σ τ) (h0 : 0 ≤ v) (h1 : 1 ≤ w) (h2 : v + w ≤ P.2.1) (hr : rp P τ (fN 28 v w A B D) i) (hp : cp P c σ (npF P g) (fN 28 v w A B D) j) (hk : okW P I 0 n (g :: Fr'.map Prod.snd)) : DOo ln N M P m c mc io i j σ τ := by
  obtain ⟨e1, e2, -⟩ := id h.1
  have hc9 := e2.1
  have hb := h.2.2.2.1
  have hmc := e1.2.2.2.2.2.2.2.2.2.1
  obtain ⟨a, rfl, ha, a1, a2, a3, -⟩ := rp_N hr
  obtain ⟨b, rfl, hb2, b1, b2, -, -, -, b3, -⟩ := cp_N hp
  have b2' : zA σ (6 * c - 20) b = nI v.toNat := by rw [← ofInt_n h0]; exact b2
  have b3' : zA σ (6 * c - 18) b = nI w.toNat := by rw [← ofInt_n (show 0 ≤ w by omega)]; exact (b3 rfl).1
  rw [ofInt_n h0] at a2
  rw [ofInt_n (show 0 ≤ w by omega)] at a3
  obtain ⟨σ1, τ1, p1, p2, p3, f1, f2⟩ := popV (N := N) (M := M) e1 (by omega) h.2.1 e2.1
  obtain ⟨σ2, τ2, q1, q2, q3, f3, f4⟩ := popV (N := N) (M := M) e1 (by omega) p3 e2.1
  have g1 := fWC_trans f1 f3
  have g2 := fWR_trans f2 f4
  have e22 := TRc_f g1 e2
  have hco : fX9_cOf ln N M (c + 2) (nI b) σ2 = some (nI w.toNat, σ2) := by rw [(tkC e22 hb2).2.2.2.1, g1.2.2.2.1 (6 * c - 18) b (by omega) (by omega), b3']
  have hao : fX9_aOf ln N M (c + 2) (nI b) σ2 = some (nI v.toNat, σ2) := by rw [(tkC e22 hb2).2.1, g1.2.2.2.1 (6 * c - 20) b (by omega) (by omega), b2']
  have hC : fX10_finish ln N M (nI b) σ = fX10_finishSetItem ln N M (nI b) σ := by
    unfold fX10_finish
    rw [rbT e2.1 e2.2.1, (tkC e2 hb2).1, obd_s, b1]
    exact obd_u
  have hR : fX12_does N (nI a) τ = obd (fX12_goes N τ1) (fun r27 σ28 => if r27 < 0 then fX12_does_b186 N σ28 else (if (nI a) < 0 ∨ 4200 ≤ a then none else (if r27 < (zA σ28 20 a) then (if (nI a) < 0 ∨ 4200 ≤ a then none else (if ((zA σ28 19 a) + r27) < 0 ∨ 4096 ≤ ((zA σ28 19 a) + r27).toNatClampNeg then none else (bnd (zsA σ28 42 ((zA σ28 19 a) + r27).toNatClampNeg (vl (n + 1))) (fun σ30 => some ((), σ30))))) else fX12_does_b186 N σ28))) := by
    unfold fX12_does
    rw [p2, obd_s, nI_clamp (by omega), if_neg (ixN (by omega) (by omega)), f2.2.1 15 a (by omega) (by omega), a1, bnd_e]
    rfl
  unfold DOo
  rw [hC, hR]
  unfold fX10_finishSetItem fX10_finishSetItem_b26 fX12_does_b186
  rw [p1, obd_s, q1, obd_s, q2, obd_s]
  by_cases c1 : vl n < 0
  · rw [if_pos c1, if_pos c1, bnd_e, bnd_e]
    exact ⟨_, _, rfl, rfl, WO_no g1 g2 q3.2.2.2.2.1 (by decide)⟩
  · rw [if_neg c1, if_neg c1, rbT e22.1 e22.2.1, hco, obd_s, if_neg (ixN (by omega) (by omega)), g2.2.1 20 a (by omega) (by omega), a3]
    by_cases c2 : vl n < nI w.toNat
    · obtain ⟨q, hq, eq, -, -, -⟩ := pk_mu c1 (Int32.not_le.mpr c2) (by omega)
      obtain ⟨W2, f5, f6⟩ := WI_g (q := v.toNat + q) (x := vl (n + 1)) e2.1 q3
      rw [if_pos c2, if_pos c2, rbT e22.1 e22.2.1, hao, obd_s, eq, nI_add, wgsC e1 (by omega), obd_s, if_neg (ixN (by omega) (by omega)), g2.2.1 19 a (by omega) (by omega), a2, nI_add, nI_clamp (by omega), if_neg (ixN (by omega) (by omega)), bnd_e]
      exact ⟨_, _, rfl, rfl, WO_ok (fWC_trans g1 f5) (fWR_trans g2 f6) W2 hk (by omega) (by omega) (by omega)⟩
    · rw [if_neg c2, if_neg c2, bnd_e, bnd_e]
      exact ⟨_, _, rfl, rfl, WO_no g1 g2 q3.2.2.2.2.1 (by decide)⟩
theorem d25 (h : BX ln mc io c P m vl lc gb (n + 1) e I b0 g Fr' σ τ) (hr : rp P τ (fN 25 v w A B D) i) (hp : cp P c σ (npF P g) (fN 25 v w A B D) j) (hk : okW P I 0 n (g :: Fr'.map Prod.snd)) : DOo ln N M P m c mc io i j σ τ := by
  obtain ⟨e1, e2, e3, e4, -⟩ := id h.1
  have hc9 := e2.1
  have hb := h.2.2.2.1
  have hmc := e1.2.2.2.2.2.2.2.2.2.1
  have hio := e1.2.2.2.2.2.2.2.2.2.2
  obtain ⟨a, rfl, ha, a1, a2, -⟩ := rp_N hr
  obtain ⟨b, rfl, hb2, b1, b2, -⟩ := cp_N hp
  obtain ⟨σ1, τ1, p1, p2, p3, f1, f2⟩ := popV (N := N) (M := M) e1 (by omega) h.2.1 e2.1
  have hC : fX10_finish ln N M (nI b) σ = obd (fX8_putOutput ln N M (vl n) σ1) (fun r25 σ26 => if r25 = 0 then fX10_finish_b181 ln N M (6 : Int32) σ26 else fX10_finish_b181 ln N M (0 : Int32) σ26) := by
    unfold fX10_finish
    rw [rbT e2.1 e2.2.1, (tkC e2 hb2).1, obd_s, b1, p1]
    rfl
  have hR : fX12_does N (nI a) τ = fX12_comesOut N (vl n) τ1 := by
    unfold fX12_does
    rw [p2, obd_s, nI_clamp (by omega), if_neg (ixN (by omega) (by omega)), f2.2.1 15 a (by omega) (by omega), a1, bnd_e]
    exact obd_u
  unfold DOo
  rw [hC, hR]
  unfold fX10_finish_b181
  obtain ⟨w1, w2, w3, w4, w5, w6⟩ := p3
  rcases outO (ln := ln) (N := N) (M := M) (v := vl n) e1.2.1 hio ((f2.1 10 (by omega) (by omega) (by omega) (by omega) (by omega) (by omega) (by omega)).trans e4) w5 with ⟨o, c1, q1, q2, q3⟩ | ⟨q1, q2⟩
  · rw [q1, q2, obd_s, if_neg (by decide), bnd_e]
    have f3 : fWC σ1 (zsI (zsI (zsA σ1 25 o (vl n)) 6 4 (nI (o + 1))) 8 14 0) := fWC_trans (fWC_A (by omega)) (fWC_trans (fWC_I6 (by omega)) (fWC_I (by omega)))
    have f4 : fWR τ1 (zsI (zsA τ1 5 o (vl n)) 0 14 (nI (o + 1))) := fWR_trans (fWR_A (by omega)) (fWR_I (by omega))
    refine ⟨_, _, rfl, rfl, WO_ok (fWC_trans f1 f3) (fWR_trans f2 f4) (vl' := vl) (lc' := lc) (gb' := gb) (n' := n) (e' := e) (I' := I) (Fr' := (b0, g) :: Fr') ⟨?_, ?_, itR_f hc9 (fW_tr f3 f4) I _ (fun p hp => ?_) w3, frR_f (σ := σ1) (τ := τ1) _ e (fun p hp => ?_) w4, ?_, ?_⟩ hk (by omega) (by omega) (by omega)⟩
    · obtain ⟨x1, x2, x3, x4, x5, x6, x7, x8⟩ := w1
      refine ⟨?_, ?_, ?_, ?_, fun q hq => ?_, fun q hq => ?_, fun q hq => ?_, by rw [zI_I, if_pos ⟨rfl, rfl⟩]⟩
      · rw [zI_I, if_neg (by omega), zI_I, if_neg (by omega), zI_A]; exact x1
      · rw [zI_I, if_neg (by omega), zI_I, if_neg (by omega), zI_A]; exact x2
      · rw [zI_I, if_neg (by omega), zI_I, if_neg (by omega), zI_A]; exact x3
      · rw [zI_I, if_neg (by omega), zI_I, if_neg (by omega), zI_A]; exact x4
      · rw [zA_I, zA_I, zA_A, if_neg (by omega)]; exact x5 q hq
      · rw [zA_I, zA_I, zA_A, if_neg (by omega)]; exact x6 q hq
      · rw [zA_I, zA_I, zA_A, if_neg (by omega)]; exact x7 q hq
    · obtain ⟨x1, x2, x3, x4, x5, x6, x7, x8⟩ := w2
      refine ⟨?_, ?_, ?_, ?_, fun q hq => ?_, fun q hq => ?_, fun q hq => ?_, ?_⟩
      · rw [zI_I, if_neg (by omega), zI_A]; exact x1
      · rw [zI_I, if_neg (by omega), zI_A]; exact x2
      · rw [zI_I, if_neg (by omega), zI_A]; exact x3
      · rw [zI_I, if_neg (by omega), zI_A]; exact x4
      · rw [zA_I, zA_A, if_neg (by omega)]; exact x5 q hq
      · rw [zA_I, zA_A, if_neg (by omega)]; exact x6 q hq
      · rw [zA_I, zA_A, if_neg (by omega)]; exact x7 q hq
      · rw [zI_I, if_neg (by omega), zI_A]; exact x8
    · refine ⟨?_, ?_, ?_, ?_⟩
      · rw [zA_I, zA_I, zA_A, if_neg (by omega)]
      · rw [zA_I, zA_I, zA_A, if_neg (by omega)]
      · rw [zA_I, zA_A, if_neg (by omega)]
      · rw [zA_I, zA_A, if_neg (by omega)]
    · refine ⟨?_, ?_, ?_⟩
      · rw [zA_I, zA_A, if_neg (by omega)]
      · rw [zA_I, zA_A, if_neg (by omega)]
      · rw [zA_I, zA_I, zA_A, if_neg (by omega)]
    · exact TPr_w (fun k hk => by rw [zI_I, if_neg (by omega)]) (fun _ _ => rfl) (fun _ _ _ => rfl) (fun _ _ _ => rfl) q3
    · exact TAt_w (fun k hk => by rw [zI_I, if_neg (by omega), zI_I, if_neg (by omega), zI_A]) (by rw [zI_I, if_neg (by omega), zI_A]) w6
  · rw [q1, q2, obd_s, if_pos rfl, bnd_e]
    exact ⟨_, _, rfl, rfl, WO_no f1 f2 w5 (by decide)⟩
theorem d22 (h : BX ln mc io c P m vl lc gb (n + 1) e I b0 g Fr' σ τ) (hwB : wfg P g B 1 0) (hwD : isZ D ∨ wfg P g D 1 0) (hr : rp P τ (fN 22 v w A B D) i) (hp : cp P c σ (npF P g) (fN 22 v w A B D) j) (hk : okW P I 0 n (g :: Fr'.map Prod.snd)) : DOo ln N M P m c mc io i j σ τ := by
  obtain ⟨e1, e2, -⟩ := id h.1
  have hg := h.2.2.1
  have hc9 := e2.1
  have hb := h.2.2.2.1
  have hmc := e1.2.2.2.2.2.2.2.2.2.1
  obtain ⟨a, rfl, ha, a1, a2, a3, a4, a5, a6⟩ := rp_N hr
  obtain ⟨b, rfl, hb2, b1, b2, -, -, -, -, b4, b5⟩ := cp_N hp
  have b4 := b4 (by omega) (by omega)
  have b5 := b5 (by omega)
  obtain ⟨σ1, τ1, p1, p2, p3, f1, f2⟩ := popV (N := N) (M := M) e1 (by omega) h.2.1 e2.1
  have e21 := TRc_f f1 e2
  have hC : fX10_finish ln N M (nI b) σ = (if vl n = 0 then fX10_finishChoice_b26 ln N M (zA σ (6 * c - 17) b) σ1 else fX10_finishChoice_b26 ln N M (zA σ (6 * c - 18) b) σ1) := by
    unfold fX10_finish
    rw [rbT e2.1 e2.2.1, (tkC e2 hb2).1, obd_s, b1]
    refine obd_u.trans ?_
    unfold fX10_finishChoice
    rw [p1, obd_s]
    by_cases cz : vl n = 0
    · rw [if_pos cz, if_pos cz, rbT e21.1 e21.2.1, (tkC e21 hb2).2.2.2.2.1, obd_s, f1.2.2.2.1 (6 * c - 17) b (by omega) (by omega)]
    · rw [if_neg cz, if_neg cz, rbT e21.1 e21.2.1, (tkC e21 hb2).2.2.2.1, obd_s, f1.2.2.2.1 (6 * c - 18) b (by omega) (by omega)]
  have hR : fX12_does N (nI a) τ = (if vl n = 0 then (if (zA τ 18 a) < 0 then some ((), τ1) else obd (fX12_push N (8 : Int32) (zA τ 18 a) τ1) (fun _ σ8 => some ((), σ8))) else obd (fX12_push N (8 : Int32) (zA τ 17 a) τ1) (fun _ σ10 => some ((), σ10))) := by
    unfold fX12_does
    rw [p2, obd_s, nI_clamp (by omega), if_neg (ixN (by omega) (by omega)), f2.2.1 15 a (by omega) (by omega), a1, bnd_e, if_neg (show ¬ nI 22 = 21 by decide), if_pos (show nI 22 = 22 from rfl)]
    by_cases cz : vl n = 0
    · rw [if_pos cz, if_pos cz, if_neg (ixN (by omega) (by omega)), f2.2.1 18 a (by omega) (by omega)]
      by_cases cn : zA τ 18 a < 0
      · rw [if_pos cn, if_pos cn]
      · rw [if_neg cn, if_neg cn, if_neg (ixN (by omega) (by omega))]
    · rw [if_neg cz, if_neg cz, if_neg (ixN (by omega) (by omega)), f2.2.1 17 a (by omega) (by omega)]
  -- a branch
  have br : ∀ (T : fT) (x y : Int32), wfg P g T 1 0 → rp P τ T x → cp P c σ (npF P g) T y → ∃ σ' τ', fX10_finishChoice_b26 ln N M y σ1 = some ((), σ') ∧ obd (fX12_push N (8 : Int32) x τ1) (fun _ s => some ((), s)) = some ((), τ') ∧ WO P m c mc io σ τ σ' τ' ∧ ¬ x < 0 := by
    intro T x y hT hx hy
    obtain ⟨k', v', w', A', B', D', rfl⟩ := wf_isN hT (Or.inr rfl)
    obtain ⟨x', ex, hx', -⟩ := rp_N hx
    obtain ⟨y', ey, hy', -⟩ := cp_N hy
    obtain ⟨σ2, τ2, q1, q2, q3, f3, f4⟩ := pushT (N := N) (M := M) (q := 2) e1 (by omega) p3 e2.1 (by omega) rfl (rp_f (fun r s r1 r2 => f2.2.1 r s (by omega) (by omega)) hx) (cp_f e2.1 (fun r s r1 r2 => f1.2.2.2.1 r s (by omega) (by omega)) hy)
    have q1' : fX10_pushItem ln N M 0 y σ1 = some ((), σ2) := q1
    have q2' : fX12_push N 8 x τ1 = some ((), τ2) := q2
    refine ⟨σ2, τ2, ?_, by rw [q2', obd_s], WO_ok (fWC_trans f1 f3) (fWR_trans f2 f4) q3 (md := 0) (Or.inr (Or.inr ⟨g, _, rfl, hg, Or.inr (Or.inr (Or.inr (Or.inr (Or.inr (Or.inr (Or.inl ⟨rfl, rfl, hT, hk⟩))))))⟩)) (by omega) (by rw [List.length_cons]; omega) (by omega), by rw [ex]; exact nI_pos (by omega)⟩
    unfold fX10_finishChoice_b26
    rw [rbT e21.1 e21.2.1, show fX9_has ln N M (c + 2) y σ1 = some (1, σ1) by rw [ey]; exact (tkC e21 hy').2.2.2.2.2.2, obd_s, if_neg (by decide), q1', obd_s]
  unfold DOo
  rw [hC, hR]
  by_cases cz : vl n = 0
  · rw [if_pos cz, if_pos cz]
    rcases hwD with hz | hD
    · rw [cp_Z hz b5, rp_Z hz a6, if_pos (by decide)]
      refine ⟨σ1, τ1, ?_, rfl, WO_ok f1 f2 p3 hk (by omega) (by omega) (by omega)⟩
      unfold fX10_finishChoice_b26
      rw [rbT e21.1 e21.2.1, thN, obd_s, if_pos rfl]
    · obtain ⟨σ', τ', r1, r2, r3, r4⟩ := br D _ _ hD a6 b5
      rw [if_neg r4]
      exact ⟨σ', τ', r1, r2, r3⟩
  · rw [if_neg cz, if_neg cz]
    obtain ⟨σ', τ', r1, r2, r3, r4⟩ := br B _ _ hwB a5 b4
    exact ⟨σ', τ', r1, r2, r3⟩
theorem d23 (h : BX ln mc io c P m vl lc gb (n + 1) e I b0 g Fr' σ τ) (hw : wfg P g (fN 23 v w A B D) 1 0) (hwB : wfg P g B 1 0) (hr : rp P τ (fN 23 v w A B D) i) (hp : cp P c σ (npF P g) (fN 23 v w A B D) j) (hk : okW P I 0 n (g :: Fr'.map Prod.snd)) : DOo ln N M P m c mc io i j σ τ := by
  obtain ⟨e1, e2, -⟩ := id h.1
  have hg := h.2.2.1
  have hc9 := e2.1
  have hb := h.2.2.2.1
  have hmc := e1.2.2.2.2.2.2.2.2.2.1
  obtain ⟨a, rfl, ha, a1, a2, a3, a4, a5, a6⟩ := rp_N hr
  obtain ⟨b, rfl, hb2, b1, b2, -, -, -, -, b4, b5⟩ := cp_N hp
  have b4 := b4 (by omega) (by omega)
  obtain ⟨σ1, τ1, p1, p2, p3, f1, f2⟩ := popV (N := N) (M := M) e1 (by omega) h.2.1 e2.1
  have hC : fX10_finish ln N M (nI b) σ = fX10_finishLoop ln N M (nI b) σ := by
    unfold fX10_finish
    rw [rbT e2.1 e2.2.1, (tkC e2 hb2).1, obd_s, b1]
    exact obd_u
  have hR : fX12_does N (nI a) τ = (if vl n = 0 then some ((), τ1) else (obd (fX12_push N (8 : Int32) (nI a) τ1) (fun _ σ12 => if (nI a) < 0 ∨ 4200 ≤ a then none else (obd (fX12_push N (8 : Int32) (zA σ12 17 a) σ12) (fun _ σ14 => some ((), σ14)))))) := by
    unfold fX12_does
    rw [p2, obd_s, nI_clamp (by omega), if_neg (ixN (by omega) (by omega)), f2.2.1 15 a (by omega) (by omega), a1, bnd_e]
    rfl
  unfold DOo
  rw [hC, hR]
  unfold fX10_finishLoop
  rw [p1, obd_s]
  by_cases cz : vl n = 0
  · rw [if_pos cz, if_pos cz]
    exact ⟨σ1, τ1, rfl, rfl, WO_ok f1 f2 p3 hk (by omega) (by omega) (by omega)⟩
  · rw [if_neg cz, if_neg cz]
    obtain ⟨σ2, τ2, q1, q2, q3, f3, f4⟩ := pushT (N := N) (M := M) (q := 2) e1 (by omega) p3 e2.1 (by omega) rfl (rp_f (fun r s r1 r2 => f2.2.1 r s (by omega) (by omega)) hr) (cp_f e2.1 (fun r s r1 r2 => f1.2.2.2.1 r s (by omega) (by omega)) hp)
    have g1 := fWC_trans f1 f3
    have g2 := fWR_trans f2 f4
    have e22 := TRc_f g1 e2
    obtain ⟨σ3, τ3, s1, s2, s3, f5, f6⟩ := pushT (N := N) (M := M) (q := 2) e1 (by rw [List.length_cons]; omega) q3 e2.1 (by omega) rfl (rp_f (fun r s r1 r2 => g2.2.1 r s (by omega) (by omega)) a5) (cp_f e2.1 (fun r s r1 r2 => g1.2.2.2.1 r s (by omega) (by omega)) b4)
    have q1' : fX10_pushItem ln N M 0 (nI b) σ1 = some ((), σ2) := q1
    have s1' : fX10_pushItem ln N M 0 (zA σ (6 * c - 18) b) σ2 = some ((), σ3) := s1
    have q2' : fX12_push N 8 (nI a) τ1 = some ((), τ2) := q2
    have s2' : fX12_push N 8 (zA τ2 17 a) τ2 = some ((), τ3) := by rw [g2.2.1 17 a (by omega) (by omega)]; exact s2
    rw [q1', obd_s, rbT e22.1 e22.2.1, (tkC e22 hb2).2.2.2.1, obd_s, g1.2.2.2.1 (6 * c - 18) b (by omega) (by omega), s1', obd_s, q2', obd_s, if_neg (ixN (by omega) (by omega)), s2', obd_s]
    exact ⟨_, _, rfl, rfl, WO_ok (fWC_trans g1 f5) (fWR_trans g2 f6) s3 (md := 0) (Or.inr (Or.inr ⟨g, _, rfl, hg, Or.inr (Or.inr (Or.inr (Or.inr (Or.inr (Or.inr (Or.inl ⟨rfl, rfl, hwB, Or.inr (Or.inr ⟨g, _, rfl, hg, Or.inr (Or.inr (Or.inr (Or.inr (Or.inr (Or.inr (Or.inl ⟨rfl, rfl, hw, hk⟩))))))⟩)⟩))))))⟩)) (by omega) (by rw [List.length_cons, List.length_cons]; omega) (by omega)⟩
end
