/-! THE TEXT BY ITSELF: an S is taken apart -/
theorem wf2_c {G : gE} {gs np K m : Nat} : ∀ A, wf G gs np K A 2 m → isZ A ∨ ∃ t r, A = fC t r := by
  apply ff_ind
  · intro t hz _; exact Or.inl hz
  · intro k v w A B C _ _ _ h
    rw [wf_N] at h
    exact h.elim
  · intro t r _ _ _; exact Or.inr ⟨t, r, rfl⟩
section
variable {ln : Nat → Nat} {N M mc io c m n e b0 g : Nat} {P : yP} {vl lc gb : Nat → Int32} {I : List aI} {Fr' : List (Nat × Nat)} {σ τ : zSt} {A B D : fT} {v w : Int} {i j : Int32}
def SXo (ln : Nat → Nat) (N M : Nat) (P : yP) (m c mc io : Nat) (i j : Int32) (σ τ : zSt) : Prop := ∃ σ' τ', fX10_takeApart ln N M j σ = some ((), σ') ∧ fX12_states N i τ = some ((), τ') ∧ WO P m c mc io σ τ σ' τ'
/-- a row of LOCALS and S begins -/
theorem row {b a : Nat} (h : BX ln mc io c P m vl lc gb n e I b0 g Fr' σ τ) (hb2 : b < nst P P.1.2.2.2.2) (ha : a < 4200) (hwA : wfg P g A 2 0) (hr : rp P τ A (zA τ 16 a)) (hp : cp P c σ (npF P g) A (zA σ (6 * c - 19) b)) (hk : okW P I 0 n (g :: Fr'.map Prod.snd)) : ∃ σ' τ', fX10_openRow ln N M (nI b) σ = some ((), σ') ∧ (if (zA τ 16 a) < 0 then some ((), τ) else (if (nI a) < 0 ∨ 4200 ≤ a then none else (obd (fX12_push N (7 : Int32) (zA τ 16 a) τ) (fun _ σ3 => some ((), σ3))))) = some ((), τ') ∧ WO P m c mc io σ τ σ' τ' := by
  obtain ⟨E, W, hg, hb, hl⟩ := h
  obtain ⟨e1, e2, -⟩ := id E
  have hc9 := e2.1
  have hmc := e1.2.2.2.2.2.2.2.2.2.1
  unfold fX10_openRow
  rw [rbT e2.1 e2.2.1, rbT e2.1 e2.2.1, (tkC e2 hb2).2.2.1, obd_s]
  rcases wf2_c A hwA with hz | ⟨t, r, rfl⟩
  · rw [cp_Z hz hp, rp_Z hz hr, thN, obd_s, if_pos rfl, if_pos (by decide)]
    exact ⟨_, _, rfl, rfl, WO_ok fWC_refl fWR_refl W hk (by omega) (by omega) (by omega)⟩
  · obtain ⟨a', ea, ha', -, -⟩ := rp_C hr
    obtain ⟨b', eb, hb', -, -⟩ := cp_C hp
    obtain ⟨σ1, τ1, p1, p2, p3, f1, f2⟩ := pushT (N := N) (M := M) (q := 8) e1 (by omega) W e2.1 (by omega) rfl hr hp
    have p1' : fX10_pushItem ln N M 5 (zA σ (6 * c - 19) b) σ = some ((), σ1) := p1
    have p2' : fX12_push N 7 (zA τ 16 a) τ = some ((), τ1) := p2
    refine ⟨σ1, τ1, ?_, ?_, WO_ok f1 f2 p3 (md := 0) (Or.inr (Or.inr ⟨g, _, rfl, hg, Or.inr (Or.inr (Or.inr (Or.inr (Or.inr (Or.inr (Or.inr (Or.inr ⟨rfl, rfl, ⟨t, r, rfl⟩, hwA, hk⟩)))))))⟩)) (by omega) (by rw [List.length_cons]; omega) (by omega)⟩
    · rw [show fX9_has ln N M (c + 2) (zA σ (6 * c - 19) b) σ = some (1, σ) by rw [eb]; exact (tkC e2 hb').2.2.2.2.2.2, obd_s, if_neg (by decide), rbT e2.1 e2.2.1, (tkC e2 hb2).2.2.1, obd_s, p1', obd_s]
    · rw [if_neg (by rw [ea]; exact nI_pos (by omega)), if_neg (ixN (by omega) (by omega)), p2', obd_s]
theorem s20 (h : BX ln mc io c P m vl lc gb n e I b0 g Fr' σ τ) (hwA : wfg P g A 2 0) (hr : rp P τ (fN 20 v w A B D) i) (hp : cp P c σ (npF P g) (fN 20 v w A B D) j) (hk : okW P I 0 n (g :: Fr'.map Prod.snd)) : SXo ln N M P m c mc io i j σ τ := by
  obtain ⟨a, rfl, ha, a1, a2, a3, a4, -⟩ := rp_N hr
  obtain ⟨b, rfl, hb2, b1, b2, -, b3, -⟩ := cp_N hp
  obtain ⟨σ', τ', r1, r2, r3⟩ := row (N := N) (M := M) h hb2 ha hwA a4 (b3 (by omega)) hk
  have e2 := h.1.2.1
  refine ⟨σ', τ', ?_, ?_, r3⟩
  · unfold fX10_takeApart
    rw [rbT e2.1 e2.2.1, (tkC e2 hb2).1, obd_s, b1]
    exact obd_u.trans r1
  · unfold fX12_states
    rw [nI_clamp (by omega), if_neg (ixN (by omega) (by omega)), a1, bnd_e, if_pos (show nI 20 = 20 from rfl), if_neg (ixN (by omega) (by omega))]
    exact r2
/-- an E, then something is done with its value -/
theorem sDo {k : Nat} (hk21 : 21 ≤ k ∧ k ≤ 27) (h : BX ln mc io c P m vl lc gb n e I b0 g Fr' σ τ) (hw : wfg P g (fN k v w A B D) 1 0) (hwA : wfg P g A 0 0) (hr : rp P τ (fN k v w A B D) i) (hp : cp P c σ (npF P g) (fN k v w A B D) j) (hk : okW P I 0 n (g :: Fr'.map Prod.snd)) : SXo ln N M P m c mc io i j σ τ := by
  obtain ⟨E, W, hg, hb, hl⟩ := h
  obtain ⟨e1, e2, -⟩ := id E
  have hc9 := e2.1
  have hmc := e1.2.2.2.2.2.2.2.2.2.1
  obtain ⟨a, rfl, ha, a1, a2, a3, a4, -⟩ := rp_N hr
  obtain ⟨b, rfl, hb2, b1, b2, -, b3, -⟩ := cp_N hp
  obtain ⟨σ1, τ1, p1, p2, p3, f1, f2⟩ := pushT (N := N) (M := M) (q := 9) e1 (by omega) W e2.1 (by omega) rfl hr hp
  obtain ⟨σ2, τ2, q1, q2, q3, f3, f4⟩ := pushT (N := N) (M := M) (q := 1) e1 (by rw [List.length_cons]; omega) p3 e2.1 (by omega) rfl (rp_f (fun r s r1 r2 => f2.2.1 r s (by omega) (by omega)) a4) (cp_f e2.1 (fun r s r1 r2 => f1.2.2.2.1 r s (by omega) (by omega)) (b3 (by omega)))
  have e21 := TRc_f f1 e2
  have p1' : fX10_pushItem ln N M 1 (nI b) σ = some ((), σ1) := p1
  have q1' : fX10_pushItem ln N M 0 (zA σ (6 * c - 19) b) σ1 = some ((), σ2) := q1
  have p2' : fX12_push N 9 (nI a) τ = some ((), τ1) := p2
  have q2' : fX12_push N 2 (zA τ1 16 a) τ1 = some ((), τ2) := by rw [f2.2.1 16 a (by omega) (by omega)]; exact q2
  have hbo : fX9_bOf ln N M (c + 2) (nI b) σ1 = some (zA σ (6 * c - 19) b, σ1) := by rw [(tkC e21 hb2).2.2.1, f1.2.2.2.1 (6 * c - 19) b (by omega) (by omega)]
  -- the part is there
  obtain ⟨k', v', w', A', B', D', eA⟩ := wf_isN hwA (Or.inl rfl)
  have hcA := b3 (by omega)
  have hrA := a4
  rw [eA] at hcA hrA
  obtain ⟨a', ea, ha', -⟩ := rp_N hrA
  obtain ⟨b', eb, hb', -⟩ := cp_N hcA
  refine ⟨σ2, τ2, ?_, ?_, WO_ok (fWC_trans f1 f3) (fWR_trans f2 f4) q3 (md := 1) (Or.inr (Or.inr ⟨g, _, rfl, hg, Or.inl ⟨rfl, rfl, hwA, Or.inr (Or.inr ⟨g, _, rfl, hg, Or.inr (Or.inr (Or.inr (Or.inr (Or.inl ⟨rfl, rfl, hw, k, v, w, A, B, D, rfl, Or.inl ⟨hk21, by omega, hk⟩⟩))))⟩)⟩⟩)) (by omega) (by rw [List.length_cons, List.length_cons]; omega) (by omega)⟩
  · have hgen : obd (fX10_pushItem ln N M (1 : Int32) (nI b) σ) (fun _ s => rbd (zR s 8 8) 11 12 (fun q => obd (fX9_bOf ln N M q (nI b) s) (fun r s2 => obd (fX10_pushItem ln N M (0 : Int32) r s2) (fun _ s3 => some ((), s3))))) = some ((), σ2) := by
      rw [p1', obd_s, rbT e21.1 e21.2.1, hbo, obd_s, q1', obd_s]
    have hloc : fX10_takeLocalApart ln N M (nI b) σ = some ((), σ2) := by
      unfold fX10_takeLocalApart
      rw [rbT e2.1 e2.2.1, rbT e2.1 e2.2.1, (tkC e2 hb2).2.2.1, obd_s, show fX9_has ln N M (c + 2) (zA σ (6 * c - 19) b) σ = some (1, σ) by rw [eb]; exact (tkC e2 hb').2.2.2.2.2.2, obd_s, if_neg (by decide)]
      exact hgen
    unfold fX10_takeApart
    rw [rbT e2.1 e2.2.1, (tkC e2 hb2).1, obd_s, b1]
    have hkk : k = 21 ∨ k = 22 ∨ k = 23 ∨ k = 24 ∨ k = 25 ∨ k = 26 ∨ k = 27 := by omega
    rcases hkk with e | e | e | e | e | e | e
    · subst e; exact obd_u.trans hloc
    · subst e; exact hgen
    · subst e; exact hgen
    · subst e; exact hgen
    · subst e; exact hgen
    · subst e; exact hgen
    · subst e; exact obd_u.trans hloc
  · have hgen : obd (fX12_push N (9 : Int32) (nI a) τ) (fun _ s => if (nI a) < 0 ∨ 4200 ≤ a then none else (obd (fX12_push N (2 : Int32) (zA s 16 a) s) (fun _ s2 => some ((), s2)))) = some ((), τ2) := by
      rw [p2', obd_s, if_neg (ixN (by omega) (by omega)), q2', obd_s]
    unfold fX12_states
    rw [nI_clamp (by omega), if_neg (ixN (by omega) (by omega)), a1, bnd_e]
    have hkk : k = 21 ∨ k = 22 ∨ k = 23 ∨ k = 24 ∨ k = 25 ∨ k = 26 ∨ k = 27 := by omega
    rcases hkk with e | e | e | e | e | e | e
    · subst e
      rw [if_neg (show ¬ nI 21 = 20 by decide), if_pos (show nI 21 = 21 from rfl), if_neg (ixN (by omega) (by omega)), if_pos (show 0 ≤ zA τ 16 a by rw [ea]; exact nI_ixge (by omega))]
      exact hgen
    · subst e; exact hgen
    · subst e; exact hgen
    · subst e; exact hgen
    · subst e; exact hgen
    · subst e; exact hgen
    · subst e; exact hgen
/-- a LOCAL without an E -/
theorem s21 (h : BX ln mc io c P m vl lc gb n e I b0 g Fr' σ τ) (hz : isZ A) (h0 : 0 ≤ v) (h1 : v < P.2.2.2.2 g) (hr : rp P τ (fN 21 v w A B D) i) (hp : cp P c σ (npF P g) (fN 21 v w A B D) j) (hk : okW P I 0 n (g :: Fr'.map Prod.snd)) : SXo ln N M P m c mc io i j σ τ := by
  obtain ⟨q, q1, q2, q3, q4, q5⟩ := locC (N := N) (M := M) h (Or.inl ⟨h0, h1⟩)
  obtain ⟨E, W, hg, hb, hl⟩ := h
  obtain ⟨e1, e2, -⟩ := id E
  have hc9 := e2.1
  obtain ⟨a, rfl, ha, a1, a2, a3, a4, -⟩ := rp_N hr
  obtain ⟨b, rfl, hb2, b1, b2, -, b3, -⟩ := cp_N hp
  have b2' : zA σ (6 * c - 20) b = inF (npF P g) v := b2
  obtain ⟨w1, w2, w3, w4, w5, w6⟩ := W
  have f1 : fWC σ (zsA σ 31 q 0) := fWC_A (by omega)
  have f2 : fWR τ (zsA τ 46 q 0) := fWR_A (by omega)
  refine ⟨zsA σ 31 q 0, zsA τ 46 q 0, ?_, ?_, WO_ok f1 f2 (vl' := vl) (lc' := mset lc q 0) (gb' := gb) (n' := n) (e' := e) (I' := I) (Fr' := (b0, g) :: Fr') ⟨XC_l w1, XR_l w2, itR_f hc9 (fW_tr f1 f2) I _ (fun p hp => ?_) w3, frR_f (σ := σ) (τ := τ) _ e (fun p hp => ?_) w4, ?_, ?_⟩ hk (by omega) (by omega) (by omega)⟩
  · have hloc : fX10_takeLocalApart ln N M (nI b) σ = some ((), zsA σ 31 q 0) := by
      unfold fX10_takeLocalApart fX10_setLocal
      rw [rbT e2.1 e2.2.1, rbT e2.1 e2.2.1, (tkC e2 hb2).2.2.1, obd_s, cp_Z hz (b3 (by omega)), thN, obd_s, if_pos rfl, rbT e2.1 e2.2.1, (tkC e2 hb2).2.1, obd_s, b2', q4, obd_s, wfsC e1 (by omega), obd_s, obd_s]
    unfold fX10_takeApart
    rw [rbT e2.1 e2.2.1, (tkC e2 hb2).1, obd_s, b1]
    exact obd_u.trans hloc
  · unfold fX12_states
    rw [nI_clamp (by omega), if_neg (ixN (by omega) (by omega)), a1, bnd_e, if_neg (show ¬ nI 21 = 20 by decide), if_pos (show nI 21 = 21 from rfl), if_neg (ixN (by omega) (by omega)), rp_Z hz a4, if_neg (by decide), if_neg (ixN (by omega) (by omega)), a2, q5, obd_s, nI_clamp (by omega), if_neg (ixN (by omega) (by omega)), bnd_e]
  · refine ⟨?_, ?_, ?_, ?_⟩ <;> rw [zA_A, if_neg (by omega)]
  · refine ⟨?_, ?_, ?_⟩ <;> rw [zA_A, if_neg (by omega)]
  · exact TPr_w (fun k hk => rfl) (fun j hj => rfl) (fun a i ha => by rw [zA_A, if_neg (by omega)]) (fun a i ha => by rw [zA_A, if_neg (by omega)]) w5
  · exact TAt_w (fun k hk => rfl) rfl w6
theorem s28 (h : BX ln mc io c P m vl lc gb n e I b0 g Fr' σ τ) (hw : wfg P g (fN 28 v w A B D) 1 0) (hwA : wfg P g A 0 0) (hwB : wfg P g B 0 0) (hr : rp P τ (fN 28 v w A B D) i) (hp : cp P c σ (npF P g) (fN 28 v w A B D) j) (hk : okW P I 0 n (g :: Fr'.map Prod.snd)) : SXo ln N M P m c mc io i j σ τ := by
  obtain ⟨E, W, hg, hb, hl⟩ := h
  obtain ⟨e1, e2, -⟩ := id E
  have hc9 := e2.1
  have hmc := e1.2.2.2.2.2.2.2.2.2.1
  obtain ⟨a, rfl, ha, a1, a2, a3, a4, a5, -⟩ := rp_N hr
  obtain ⟨b, rfl, hb2, b1, b2, -, b3, -, b4, -⟩ := cp_N hp
  obtain ⟨σ1, τ1, p1, p2, p3, f1, f2⟩ := pushT (N := N) (M := M) (q := 9) e1 (by omega) W e2.1 (by omega) rfl hr hp
  obtain ⟨σ2, τ2, q1, q2, q3, f3, f4⟩ := pushT (N := N) (M := M) (q := 1) e1 (by rw [List.length_cons]; omega) p3 e2.1 (by omega) rfl (rp_f (fun r s r1 r2 => f2.2.1 r s (by omega) (by omega)) a5) (cp_f e2.1 (fun r s r1 r2 => f1.2.2.2.1 r s (by omega) (by omega)) (b4 rfl).2)
  have g1 := fWC_trans f1 f3
  have g2 := fWR_trans f2 f4
  obtain ⟨σ3, τ3, s1, s2, s3, f5, f6⟩ := pushT (N := N) (M := M) (q := 1) e1 (by rw [List.length_cons, List.length_cons]; omega) q3 e2.1 (by omega) rfl (rp_f (fun r s r1 r2 => g2.2.1 r s (by omega) (by omega)) a4) (cp_f e2.1 (fun r s r1 r2 => g1.2.2.2.1 r s (by omega) (by omega)) (b3 (by omega)))
  have e21 := TRc_f f1 e2
  have e22 := TRc_f g1 e2
  have p1' : fX10_pushItem ln N M 1 (nI b) σ = some ((), σ1) := p1
  have q1' : fX10_pushItem ln N M 0 (zA σ (6 * c - 17) b) σ1 = some ((), σ2) := q1
  have s1' : fX10_pushItem ln N M 0 (zA σ (6 * c - 19) b) σ2 = some ((), σ3) := s1
  have p2' : fX12_push N 9 (nI a) τ = some ((), τ1) := p2
  have q2' : fX12_push N 2 (zA τ1 17 a) τ1 = some ((), τ2) := by rw [f2.2.1 17 a (by omega) (by omega)]; exact q2
  have s2' : fX12_push N 2 (zA τ2 16 a) τ2 = some ((), τ3) := by rw [g2.2.1 16 a (by omega) (by omega)]; exact s2
  have hdo : fX9_dOf ln N M (c + 2) (nI b) σ1 = some (zA σ (6 * c - 17) b, σ1) := by rw [(tkC e21 hb2).2.2.2.2.1, f1.2.2.2.1 (6 * c - 17) b (by omega) (by omega)]
  have hbo : fX9_bOf ln N M (c + 2) (nI b) σ2 = some (zA σ (6 * c - 19) b, σ2) := by rw [(tkC e22 hb2).2.2.1, g1.2.2.2.1 (6 * c - 19) b (by omega) (by omega)]
  refine ⟨σ3, τ3, ?_, ?_, WO_ok (fWC_trans g1 f5) (fWR_trans g2 f6) s3 (md := 1) (Or.inr (Or.inr ⟨g, _, rfl, hg, Or.inl ⟨rfl, rfl, hwA, Or.inr (Or.inr ⟨g, _, rfl, hg, Or.inl ⟨rfl, rfl, hwB, Or.inr (Or.inr ⟨g, _, rfl, hg, Or.inr (Or.inr (Or.inr (Or.inr (Or.inl ⟨rfl, rfl, hw, 28, v, w, A, B, D, rfl, Or.inr ⟨rfl, by omega, hk⟩⟩))))⟩)⟩⟩)⟩⟩)) (by omega) (by rw [List.length_cons, List.length_cons, List.length_cons]; omega) (by omega)⟩
  · have hgen : obd (fX10_pushItem ln N M (1 : Int32) (nI b) σ) (fun _ σ83 => rbd (zR σ83 8 8) 11 12 (fun q84 => obd (fX9_dOf ln N M q84 (nI b) σ83) (fun r85 σ86 => obd (fX10_pushItem ln N M (0 : Int32) r85 σ86) (fun _ σ88 => rbd (zR σ88 8 8) 11 12 (fun q89 => obd (fX9_bOf ln N M q89 (nI b) σ88) (fun r90 σ91 => obd (fX10_pushItem ln N M (0 : Int32) r90 σ91) (fun _ σ93 => some ((), σ93)))))))) = some ((), σ3) := by
      rw [p1', obd_s, rbT e21.1 e21.2.1, hdo, obd_s, q1', obd_s, rbT e22.1 e22.2.1, hbo, obd_s, s1', obd_s]
    unfold fX10_takeApart
    rw [rbT e2.1 e2.2.1, (tkC e2 hb2).1, obd_s, b1]
    exact hgen
  · have hgen : obd (fX12_push N (9 : Int32) (nI a) τ) (fun _ s => if (nI a) < 0 ∨ 4200 ≤ a then none else (obd (fX12_push N (2 : Int32) (zA s 17 a) s) (fun _ s2 => if (nI a) < 0 ∨ 4200 ≤ a then none else (obd (fX12_push N (2 : Int32) (zA s2 16 a) s2) (fun _ s3 => some ((), s3)))))) = some ((), τ3) := by
      rw [p2', obd_s, if_neg (ixN (by omega) (by omega)), q2', obd_s, if_neg (ixN (by omega) (by omega)), s2', obd_s]
    unfold fX12_states
    rw [nI_clamp (by omega), if_neg (ixN (by omega) (by omega)), a1, bnd_e]
    exact hgen
theorem s29 (h : BX ln mc io c P m vl lc gb n e I b0 g Fr' σ τ) (hwA : wfg P g A 0 0) (hr : rp P τ (fN 29 v w A B D) i) (hp : cp P c σ (npF P g) (fN 29 v w A B D) j) (hk : okW P I 0 n (g :: Fr'.map Prod.snd)) : SXo ln N M P m c mc io i j σ τ := by
  obtain ⟨E, W, hg, hb, hl⟩ := h
  obtain ⟨e1, e2, -⟩ := id E
  have hc9 := e2.1
  have hmc := e1.2.2.2.2.2.2.2.2.2.1
  obtain ⟨a, rfl, ha, a1, a2, a3, a4, -⟩ := rp_N hr
  obtain ⟨b, rfl, hb2, b1, b2, -, b3, -⟩ := cp_N hp
  obtain ⟨σ1, τ1, p1, p2, p3, f1, f2⟩ := pushI (N := N) (M := M) (x := (10, fZ, 0)) (a := 7) (b := nI b) (a' := 10) (b' := nI a) e1 (by omega) W e2.1 (by decide) (fun σ' τ' h1 h2 h3 h4 ht => by
    unfold slI
    rw [if_neg (show ¬ (10 : Nat) = 0 by decide), if_neg (show ¬ (10 : Nat) = 3 by decide), if_neg (show ¬ (10 : Nat) = 6 by decide), if_neg (show ¬ (10 : Nat) = 7 by decide), if_pos rfl]
    exact ⟨h3, h1⟩)
  obtain ⟨σ2, τ2, q1, q2, q3, f3, f4⟩ := pushT (N := N) (M := M) (q := 1) e1 (by rw [List.length_cons]; omega) p3 e2.1 (by omega) rfl (rp_f (fun r s r1 r2 => f2.2.1 r s (by omega) (by omega)) a4) (cp_f e2.1 (fun r s r1 r2 => f1.2.2.2.1 r s (by omega) (by omega)) (b3 (by omega)))
  have e21 := TRc_f f1 e2
  have q1' : fX10_pushItem ln N M 0 (zA σ (6 * c - 19) b) σ1 = some ((), σ2) := q1
  have q2' : fX12_push N 2 (zA τ1 16 a) τ1 = some ((), τ2) := by rw [f2.2.1 16 a (by omega) (by omega)]; exact q2
  have hbo : fX9_bOf ln N M (c + 2) (nI b) σ1 = some (zA σ (6 * c - 19) b, σ1) := by rw [(tkC e21 hb2).2.2.1, f1.2.2.2.1 (6 * c - 19) b (by omega) (by omega)]
  refine ⟨σ2, τ2, ?_, ?_, WO_ok (fWC_trans f1 f3) (fWR_trans f2 f4) q3 (md := 1) (Or.inr (Or.inr ⟨g, _, rfl, hg, Or.inl ⟨rfl, rfl, hwA, Or.inr (Or.inr ⟨g, _, rfl, hg, Or.inr (Or.inr (Or.inr (Or.inr (Or.inr (Or.inl ⟨rfl, rfl, by omega, hk⟩)))))⟩)⟩⟩)) (by omega) (by rw [List.length_cons, List.length_cons]; omega) (by omega)⟩
  · have hgen : obd (fX10_pushItem ln N M (7 : Int32) (nI b) σ) (fun _ s => rbd (zR s 8 8) 11 12 (fun q => obd (fX9_bOf ln N M q (nI b) s) (fun r s2 => obd (fX10_pushItem ln N M (0 : Int32) r s2) (fun _ s3 => some ((), s3))))) = some ((), σ2) := by
      rw [p1, obd_s, rbT e21.1 e21.2.1, hbo, obd_s, q1', obd_s]
    unfold fX10_takeApart
    rw [rbT e2.1 e2.2.1, (tkC e2 hb2).1, obd_s, b1]
    exact hgen
  · have hgen : obd (fX12_push N (10 : Int32) (nI a) τ) (fun _ s => if (nI a) < 0 ∨ 4200 ≤ a then none else (obd (fX12_push N (2 : Int32) (zA s 16 a) s) (fun _ s2 => some ((), s2)))) = some ((), τ2) := by
      rw [p2, obd_s, if_neg (ixN (by omega) (by omega)), q2', obd_s]
    unfold fX12_states
    rw [nI_clamp (by omega), if_neg (ixN (by omega) (by omega)), a1, bnd_e]
    exact hgen
theorem s30 (h : BX ln mc io c P m vl lc gb n e I b0 g Fr' σ τ) (hr : rp P τ (fN 30 v w A B D) i) (hp : cp P c σ (npF P g) (fN 30 v w A B D) j) (hk : okW P I 0 n (g :: Fr'.map Prod.snd)) : SXo ln N M P m c mc io i j σ τ := by
  obtain ⟨E, W, hg, hb, hl⟩ := h
  obtain ⟨e1, e2, -⟩ := id E
  have hmc := e1.2.2.2.2.2.2.2.2.2.1
  obtain ⟨a, rfl, ha, a1, -⟩ := rp_N hr
  obtain ⟨b, rfl, hb2, b1, -⟩ := cp_N hp
  refine ⟨σ, τ, ?_, ?_, WO_ok fWC_refl fWR_refl W hk (by omega) (by omega) (by omega)⟩
  · unfold fX10_takeApart
    rw [rbT e2.1 e2.2.1, (tkC e2 hb2).1, obd_s, b1]
    rfl
  · unfold fX12_states
    rw [nI_clamp (by omega), if_neg (ixN (by omega) (by omega)), a1, bnd_e]
    rfl
end
