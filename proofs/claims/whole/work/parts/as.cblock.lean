/-! THE CLASS: LOCALS and S of a BLOCK -/
def fSl (q s p nn : Nat) (e : Bool) (τ u : zSt) : Prop := (∀ o k, ¬ sI q o k → zI u o k = zI τ o k) ∧ (∀ o k, o ≠ 1 → zL u o k = zL τ o k) ∧ (∀ o k, zR u o k = zR τ o k) ∧ (∀ a i, ¬ sA q s p nn a i → ¬ (e = true ∧ a = 6 * q - 16 ∧ i + 1 = s) → zA u a i = zA τ a i) ∧ (∀ a i, ¬ (a = 16 ∧ nn ≤ i) → zB u a i = zB τ a i)
theorem fSl_o {q s p nn : Nat} {e : Bool} {τ u : zSt} (h : fSt q s p nn τ u) : fSl q s p nn e τ u := ⟨h.1, h.2.1, h.2.2.1, fun a i c _ => h.2.2.2.1 a i c, h.2.2.2.2⟩
theorem fSl_f {q s p nn : Nat} {τ u : zSt} (h : fSl q s p nn false τ u) : fSt q s p nn τ u := ⟨h.1, h.2.1, h.2.2.1, fun a i c => h.2.2.2.1 a i c (fun e => by cases e.1), h.2.2.2.2⟩
def yCl (x : Nat → Int32) (n : Nat) (y : Except Int32 (fT × yTok × Nat × Nat)) : Except Int32 (fT × yTok × Nat × Nat) := xb y (fun r => xb (cm x n r.2.1) (fun t3 => .ok (r.1, t3, r.2.2)))
theorem yCl_C {x : Nat → Int32} {n : Nat} {T : fT} {y : Except Int32 (fT × yTok × Nat × Nat)} : yCl x n (xb y (fun r => .ok (fC T r.1, r.2))) = xb (yCl x n y) (fun v => .ok (fC T v.1, v.2)) := by
  cases y with
  | error e => rfl
  | ok v =>
    unfold yCl
    rw [xb_k, xb_k, xb_k]
    cases cm x n v.2.1 with
    | error e => rfl
    | ok t => rfl
section
variable (ln : Nat → Nat) (q : Nat) (x : Nat → Int32) (n tc : Nat) (G : gE) (np : Nat) (fnd st : Nat → Int32)
def BKq (L0 : lE) (tk : yTok) (ns0 s p D pl0 i : Nat) (x3 : Int32) (τ : zSt) (res : Except Int32 (fT × yTok × Nat × Nat)) (r : Int32) (z : zSt) : Prop :=
  (∀ e, res = .error e → e ≠ 0 ∧ DS ln q e (SBc ns0) z ∧ fR q τ z) ∧
  (∀ A tk' c' ms', res = .ok (A, tk', c', ms') → ∃ s' i0, SVc ln q x n tc G np fnd L0 tk' c' ns0 s' (p + (gl A).2) pl0 ms' z ∧ fSl q s p (G.2.2.2.2 + L0.2.2) (decide (0 < i)) τ z ∧ (crp z q fnd np A).1 s s' i0 ∧ r = (if i = 0 then i0 else x3) ∧ (0 < i → zA z (6 * q - 16) (s - 1) = i0) ∧ cdC ln q z p ((gn st (nI np) A).2 p) ∧ CB n tc tk' c' ns0 s' (p + (gl A).2) D ∧ tk.2.1 < tk'.2.1 ∧ ms' ≤ tk'.2.1)
def BKp (N M : Nat) (K : zSt → Option (Int32 × zSt)) (R : ySrec) (L0 : lE) (ns0 pl0 f : Nat) : Prop := ∀ (dc : Bool) L pl ms tk c s p D i m (x3 x4 : Int32) τ, SVc ln q x n tc G np fnd L tk c (ns0 + 1) s p pl ms τ → CB n tc tk c (ns0 + 1) s p D → p ≤ 4 + 20 * (s + D) → lpre L0 L → G.2.2.2.2 + L.2.2 ≤ tk.2.1 → pl ≤ tk.2.1 → ms ≤ tk.2.1 → i ≤ tk.2.1 → n + 2 ≤ m + i → ((i = 0 ∧ x3 = -1 ∧ x4 = -1) ∨ (0 < i ∧ 0 < s ∧ x4 = nI (s - 1) ∧ nxP q s τ)) →
  yCl x n (yItems x n tc G R f dc L0.2.2 (ns0 + 1) L pl ms tk c) ≠ .error 0 → wp (fX6_block_b31 ln N M K m (nI (G.2.2.2.2 + L0.2.2)) (nI pl0) x3 x4 (b01 dc) (nI i) τ) (BKq ln q x n tc G np fnd st L0 tk ns0 s p D pl0 i x3 τ (yCl x n (yItems x n tc G R f dc L0.2.2 (ns0 + 1) L pl ms tk c)))
end
section
variable {ln : Nat → Nat} {N M q cc : Nat} {x : Nat → Int32} {n tc : Nat} {G : gE} {L L0 : lE} {np : Nat} {fnd st : Nat → Int32} {mu : Int32} {tk : yTok} {c ns ns0 s p t D pl pl0 ms : Nat} {σ τ : zSt}
theorem BKq_e {e : Int32} {z : zSt} {r x3 : Int32} {b i : Nat} {res : Except Int32 (fT × yTok × Nat × Nat)} (hr : res = .error e) (he : e ≠ 0) (h : DS ln q e b z) (hf : fR q τ z) (hb : b ≤ SBc ns0) : BKq ln q x n tc G np fnd st L0 tk ns0 s p D pl0 i x3 τ res r z := by
  refine ⟨fun e' h' => ?_, fun A tk' c' ms' h' => by rw [hr] at h'; cases h'⟩
  rw [hr] at h'
  cases h'
  exact ⟨he, DS_le h hb, hf⟩
theorem b142D {K : zSt → Option (Int32 × zSt)} {e x1 x2 x3 : Int32} {b : Nat} (hL : LN ln q cc) (h : DS ln q e b σ) : wp (fX6_block_b142 ln N M K x1 x2 x3 σ) (fun _ z => DD ln q e b σ z) := by
  have hq := hL.1
  unfold fX6_block_b142
  refine wpD (cutD hL h) (fun _ u hu => ?_)
  rw [bnd_e]
  have h1 : DD ln q e b u (zsI u 2 8 x2) := ⟨DS_I hL.1 hu (by unfold dI; omega), fR_I fR_refl (by unfold okI; omega)⟩
  refine wp_mono (wpD (leaveD hL.1 h1.1) (fun _ w hw => ?_)) (fun _ y hy => DD_tr hy h1.2 (Nat.le_refl _))
  rw [comeD hw, obd_s]
  exact wpS hw (Nat.le_refl _)
theorem b31D {K : zSt → Option (Int32 × zSt)} {e x1 x2 x3 x4 x5 x6 : Int32} {b m : Nat} (hL : LN ln q cc) (hm : 1 ≤ m) (h : DS ln q e b σ) : wp (fX6_block_b31 ln N M K m x1 x2 x3 x4 x5 x6 σ) (fun _ z => DD ln q e b σ z) := by
  obtain ⟨m, rfl⟩ : ∃ g, m = g + 1 := ⟨m - 1, by omega⟩
  rw [fX6_block_b31]
  by_cases c : zI σ 1 1 < x6
  · rw [if_pos c]; exact b142D hL h
  · rw [if_neg c, h.2.2.1, if_neg (by decide), if_pos rfl]; exact b142D hL h
theorem b107D {K : zSt → Option (Int32 × zSt)} {e x1 x2 x3 x4 x5 x6 r : Int32} {b m : Nat} (hL : LN ln q cc) (hm : 1 ≤ m) (h : DS ln q e b σ) : wp (fX6_block_b107 ln N M K (fX6_block_b31 ln N M K m) x1 x2 x3 x4 x5 x6 r σ) (fun _ z => DD ln q e b σ z) := by
  unfold fX6_block_b107 fX6_block_b131
  rw [rbT hL.1 h.2.2.2.1.2.2.2.1]
  refine wpD (setND hL h) (fun _ u hu => ?_)
  by_cases c : x6 = 0
  · rw [if_pos c, bnd_e]; exact b31D hL hm hu
  · rw [if_neg c, bnd_e]; exact b31D hL hm hu
/-- names are cut -/
theorem cut_CV (hL : LN ln q cc) (hp : lpre L0 L) (h : CV ln q x n tc G L np fnd mu tk c ns s p t σ) : CV ln q x n tc G L0 np fnd mu tk c ns s p t (zsI σ 4 5 (nI (G.2.2.2.2 + L0.2.2))) := by
  have hq := hL.1
  have e : ∀ o j, o ≠ 4 → zI (zsI σ 4 5 (nI (G.2.2.2.2 + L0.2.2))) o j = zI σ o j := fun o j ho => by rw [zI_I, if_neg (by omega)]
  obtain ⟨⟨⟨s1', s2', s3', s4'⟩, hR, hN, c1, c2⟩, ⟨k1, k2, k3, k4, k5⟩, g3, g4, g5, g6, g7, g8, g9⟩ := h
  refine ⟨⟨⟨(e _ _ (by omega)).trans s1', s2', s3', s4'⟩, hR, ⟨by rw [zI_I, if_pos ⟨rfl, rfl⟩], hN.2.1, fun j hj => ?_⟩, (e _ _ (by omega)).trans c1, (e _ _ (by omega)).trans c2⟩, ⟨(e _ _ (by omega)).trans k1, (e _ _ (by omega)).trans k2, (e _ _ (by omega)).trans k3, k4, k5⟩, (e _ _ (by omega)).trans g3, (e _ _ (by omega)).trans g4, (e _ _ (by omega)).trans g5, (e _ _ (by omega)).trans g6, (e _ _ (by omega)).trans g7, (e _ _ (by omega)).trans g8, (e _ _ (by omega)).trans g9⟩
  obtain ⟨a1, a2, a3⟩ := hN.2.2 j (by have := hp.1; omega)
  exact ⟨a1.trans (hp.2 j hj).1, a2, a3.trans (hp.2 j hj).2⟩
/-- the closing bracket -/
theorem b142C {K : zSt → Option (Int32 × zSt)} {x3 x4 : Int32} {i : Nat} {res : Except Int32 (fT × yTok × Nat × Nat)} (hL : LN ln q cc) (hn : n ≤ 512) (hN : 5000 ≤ N) (h : SVc ln q x n tc G np fnd L tk c (ns0 + 1) s p pl ms τ) (hB : CB n tc tk c (ns0 + 1) s p D) (hpre : lpre L0 L) (hG : G.2.2.2.2 + L.2.2 ≤ tk.2.1) (hms : ms ≤ tk.2.1) (hk : tk.2.2.1 = 52) (hi : (i = 0 ∧ x3 = -1 ∧ x4 = -1) ∨ (0 < i ∧ 0 < s ∧ x4 = nI (s - 1) ∧ nxP q s τ)) (hres : res = xb (cm x n tk) (fun t3 => .ok (fZ, t3, c, ms))) :
    wp (fX6_block_b142 ln N M K (nI (G.2.2.2.2 + L0.2.2)) (nI pl0) x3 τ) (BKq ln q x n tc G np fnd st L0 tk ns0 s p D pl0 i x3 τ res) := by
  obtain ⟨h, h8, h9⟩ := h
  have hq := hL.1
  have hB0 := hB
  obtain ⟨b1, b2, b3, b4, b5, b6⟩ := hB
  have hp1 := b1.1
  have hp2 := b1.2.1
  have hlt := tk_ne b1 hk (by decide)
  have hnl := h.1.1.2.1
  have hSB := (SB_ge (ns := ns0)).1
  have hpl := hpre.1
  unfold fX6_block_b142
  rw [cutC (k := G.2.2.2.2 + L.2.2) (by omega) (by omega) h.1.2.2.1.1, obd_s, bnd_e]
  have hV1 := CV_2 (k := 8) (v := nI pl0) hL (cut_CV hL hpre h)
  have hF1 : fSt q s p (G.2.2.2.2 + L0.2.2) τ (zsI (zsI τ 4 5 (nI (G.2.2.2.2 + L0.2.2))) 2 8 (nI pl0)) := fSt_I (fSt_I fSt_refl (by unfold sI; omega)) (by unfold sI; omega)
  have h81 : zI (zsI (zsI τ 4 5 (nI (G.2.2.2.2 + L0.2.2))) 2 8 (nI pl0)) 2 8 = nI pl0 := by rw [zI_I, if_pos ⟨rfl, rfl⟩]
  have h91 : zI (zsI (zsI τ 4 5 (nI (G.2.2.2.2 + L0.2.2))) 2 8 (nI pl0)) 2 9 = nI ms := by rw [zI_I, if_neg (by omega), zI_I, if_neg (by omega)]; exact h9
  revert hV1 hF1 h81 h91
  generalize zsI (zsI τ 4 5 (nI (G.2.2.2.2 + L0.2.2))) 2 8 (nI pl0) = u1
  intro hV1 hF1 h81 h91
  refine stLeave (D := D) hL hV1 hB0 ?_
  intro hV2 hF2 hB2
  have hF02 := fSt_trans hF1 (fX_T (nn := G.2.2.2.2 + L0.2.2) hF2) (Nat.le_refl _) (Nat.le_refl _) (Nat.le_refl _)
  have h82 : zI (zsI u1 3 4 (nI ns0)) 2 8 = nI pl0 := by rw [zI_I, if_neg (by omega)]; exact h81
  have h92 : zI (zsI u1 3 4 (nI ns0)) 2 9 = nI ms := by rw [zI_I, if_neg (by omega)]; exact h91
  revert hV2 hF02 h82 h92
  generalize zsI u1 3 4 (nI ns0) = u2
  intro hV2 hF02 h82 h92
  refine stCome (D := D) hL hn hN (by omega) (by omega) hV2 hB2 ?_ ?_
  · intro t3 hcm hV3 hF3 hB3 hpl3
    rw [hcm, xb_k] at hres
    have hF03 := fSt_trans hF02 (fX_T (nn := G.2.2.2.2 + L0.2.2) hF3) (Nat.le_refl _) (Nat.le_refl _) (Nat.le_refl _)
    have hgl : (gl fZ).2 = 0 := by rw [gl_isZ isZ_Z]
    refine wp_s ⟨fun e h' => (by rw [hres] at h'; cases h'), fun A1 tk1 c1 ms1 h' => ?_⟩
    rw [hres] at h'
    cases h'
    rw [hgl]
    refine ⟨s, -1, ⟨hV3, (hF3.1 2 8 (by unfold eI; omega)).trans h82, (hF3.1 2 9 (by unfold eI; omega)).trans h92⟩, fSl_o hF03, crp_e, ?_, fun hi2 => ?_, ?_, hB3, by omega, by omega⟩
    · rcases hi with ⟨rfl, rfl, -⟩ | ⟨e, -⟩
      · rw [if_pos rfl]
      · rw [if_neg (by omega)]
    · rcases hi with ⟨e, -⟩ | ⟨e, e2, -, e3⟩
      · omega
      · rw [hF03.2.2.2.1 _ _ (by unfold sA eA; omega)]
        exact e3 (s - 1) (by omega)
    · rw [gn_isZ isZ_Z]; exact cdC_nil
  · intro e z hcm he0 hE
    rw [hcm, xb_e] at hres
    exact wp_s (BKq_e hres he0 hE.1 (fR_trans (fSt_R hq hF02) hE.2) (by omega))
/-- an item is linked, then the others -/
theorem itStep {K : zSt → Option (Int32 × zSt)} {R : ySrec} {f : Nat} {dc' : Bool} {L' : lE} {pl' ms' s1 c1 i m : Nat} {tk1 : yTok} {T : fT} {r x3 x4 : Int32} {u : zSt} {res : Except Int32 (fT × yTok × Nat × Nat)} (hL : LN ln q cc) (hn : n ≤ 512) (ih : BKp ln q x n tc G np fnd st N M K R L0 ns0 pl0 f)
    (h : SVc ln q x n tc G np fnd L' tk1 c1 (ns0 + 1) s1 (p + (gl T).2) pl' ms' u) (hB : CB n tc tk1 c1 (ns0 + 1) s1 (p + (gl T).2) D) (hP : p ≤ 4 + 20 * (s + D)) (hF : fSt q s p (G.2.2.2.2 + L0.2.2) τ u) (hc : (crp u q fnd np T).1 s s1 r) (hnd : isNd T) (hcd : cdC ln q u p ((gn st (nI np) T).2 p)) (hlt : tk.2.1 < tk1.2.1) (hms : ms' ≤ tk1.2.1) (hnx : nxP q s1 u) (hpre : lpre L0 L') (hG : G.2.2.2.2 + L'.2.2 ≤ tk1.2.1) (hpm : pl' ≤ tk1.2.1) (hi : i ≤ tk.2.1) (hm : n + 2 ≤ m + (i + 1)) (hx : (i = 0 ∧ x3 = -1 ∧ x4 = -1) ∨ (0 < i ∧ 0 < s ∧ x4 = nI (s - 1) ∧ nxP q s τ))
    (hres : res = yCl x n (xb (yItems x n tc G R f dc' L0.2.2 (ns0 + 1) L' pl' ms' tk1 c1) (fun r => .ok (fC T r.1, r.2)))) (h0 : res ≠ .error 0) :
    wp (fX6_block_b107 ln N M K (fX6_block_b31 ln N M K m) (nI (G.2.2.2.2 + L0.2.2)) (nI pl0) x3 x4 (b01 dc') (nI i) r u) (BKq ln q x n tc G np fnd st L0 tk ns0 s p D pl0 i x3 τ res) := by
  obtain ⟨h, h8, h9⟩ := h
  have hq := hL.1
  have h15 := hL.2.1
  have hB0 := hB
  obtain ⟨b1, b2, b3, b4, b5, b6⟩ := hB
  have hp1 := b1.1
  have hp2 := b1.2.1
  have hnl := h.1.1.2.1
  have hcnt := (crp_cnt T).1 _ _ _ hc
  have hgT := gl_le T
  have hlen := (gn_len st (nI np) T).2 p
  obtain ⟨k0, v0, w0, A0, B0, C0, rfl⟩ := hnd
  have hm0 : r = nI (s1 - 1) ∧ s + 1 ≤ s1 := by
    rw [crp_N] at hc
    obtain ⟨m1, a, b, q1, q2, q3, q4, q5, -⟩ := hc
    exact ⟨by rw [q1, q2]; rfl, by omega⟩
  obtain ⟨hr, hs1⟩ := hm0
  generalize hT : fN k0 v0 w0 A0 B0 C0 = T at *
  rw [yCl_C] at hres
  -- the link
  have hset : ∃ z, fX9_setNext ln N M (q + 2) x4 r u = some ((), z) ∧ SVc ln q x n tc G np fnd L' tk1 c1 (ns0 + 1) s1 (p + (gl T).2) pl' ms' z ∧ fSl q s p (G.2.2.2.2 + L0.2.2) (decide (0 < i)) τ z ∧ (crp z q fnd np T).1 s s1 r ∧ cdC ln q z p ((gn st (nI np) T).2 p) ∧ nxP q s1 z ∧ (0 < i → 0 < s ∧ zA z (6 * q - 16) (s - 1) = r) := by
    rcases hx with ⟨rfl, -, rfl⟩ | ⟨e1, e2, rfl, e3⟩
    · refine ⟨u, ?_, ⟨h, h8, h9⟩, fSl_o hF, hc, hcd, hnx, fun e => by omega⟩
      unfold fX9_setNext
      rw [if_pos (by decide)]
    · refine ⟨zsA u (6 * q - 16) (s - 1) r, ?_, ⟨?_, h8, h9⟩, ?_, ?_, ?_, ?_, fun _ => ⟨e2, by rw [zA_A, if_pos ⟨rfl, rfl⟩]⟩⟩
      · unfold fX9_setNext
        rw [show 6 * (q + 2) - 28 = 6 * q - 16 by omega, LN_t hL (a := 6 * q - 16) (by omega) (by omega), h.2.2.2.2.2.1, if_neg (nI_pos (by omega)), if_neg (fun z => by rw [nI_le' (by omega) (by omega)] at z; omega), nI_clamp (by omega), if_neg (ixN (by omega) (by omega)), bnd_e]
      · exact CV_f hL.1 h (fX_A fX_refl (by unfold eA; omega)) (fun k => rfl) (fun k => rfl) h.2.2.2.1 h.2.2.2.2.1 h.2.2.2.2.2.1 h.2.2.2.2.2.2.1 h.2.2.2.2.2.2.2.1 h.2.2.2.2.2.2.2.2
      · refine ⟨hF.1, hF.2.1, hF.2.2.1, fun a j c1 c2 => ?_, hF.2.2.2.2⟩
        rw [zA_A, if_neg (fun e => c2 ⟨decide_eq_true e1, e.1, by omega⟩)]
        exact hF.2.2.2.1 a j c1
      · refine (crp_frame (fnd' := fnd) hL.1 T).1 _ _ _ (fun a j a1 a2 a3 a4 => ?_) hc
        rw [zA_A, if_neg (by omega)]
      · intro hl j v hj
        rw [zA_A, if_neg (by omega)]
        exact hcd hl j v hj
      · intro j hj
        rw [zA_A, if_neg (by omega)]
        exact hnx j hj
  obtain ⟨z, z1, z2, z3, z4, z5, z6, z7⟩ := hset
  unfold fX6_block_b107 fX6_block_b131
  rw [rbT hL.1 h.1.2.1.2.2.2.1, z1, obd_s]
  have hx3 : ∀ (a b : Option (Int32 × zSt)), (if nI i = 0 then a else b) = (if i = 0 then a else b) := by
    intro a b
    by_cases e : i = 0
    · subst e; rfl
    · rw [if_neg e, if_neg (fun w => e (by have := congrArg Int32.toInt w; rw [nI_toInt (by omega)] at this; have z0 : (0 : Int32).toInt = 0 := rfl; omega))]
  have key : wp (fX6_block_b31 ln N M K m (nI (G.2.2.2.2 + L0.2.2)) (nI pl0) (if i = 0 then r else x3) r (b01 dc') (nI (i + 1)) z) (BKq ln q x n tc G np fnd st L0 tk ns0 s p D pl0 i x3 τ res) := by
    have h00 : yCl x n (yItems x n tc G R f dc' L0.2.2 (ns0 + 1) L' pl' ms' tk1 c1) ≠ .error 0 := fun w => h0 (by rw [hres, w]; rfl)
    refine wp_mono (ih dc' L' pl' ms' tk1 c1 s1 (p + (gl T).2) D (i + 1) m (if i = 0 then r else x3) r z z2 hB0 (by omega) hpre hG hpm hms (by omega) (by omega) (Or.inr ⟨by omega, by omega, hr, z6⟩) h00) (fun r' y hy => ?_)
    cases hY : yCl x n (yItems x n tc G R f dc' L0.2.2 (ns0 + 1) L' pl' ms' tk1 c1) with
    | error e =>
      obtain ⟨he0, hd, hf⟩ := hy.1 e hY
      rw [hY, xb_e] at hres
      refine BKq_e hres he0 hd (fR_trans ?_ hf) (Nat.le_refl _)
      exact ⟨fun o k a => z3.1 o k (by unfold sI eI; unfold okI at a; omega), z3.2.1, z3.2.2.1, fun a j c1 => z3.2.2.2.1 a j (by unfold sA eA; unfold okA at c1; omega) (by unfold okA at c1; omega), fun a j c1 => z3.2.2.2.2 a j (by omega)⟩
    | ok v =>
      obtain ⟨A, tk', c', ms2⟩ := v
      rw [hY, xb_k] at hres
      obtain ⟨s', i0, y1, y2, y3, y4, y5, y6, y7, y8, y9⟩ := hy.2 A tk' c' ms2 hY
      have hcA := (crp_cnt A).1 _ _ _ y3
      refine ⟨fun e h' => (by rw [hres] at h'; cases h'), fun A1 tk2 c2 ms3 h' => ?_⟩
      rw [hres] at h'
      cases h'
      have hgl : (gl (fC T A)).2 = (gl T).2 + (gl A).2 := by rw [gl_C]
      have hlow : ∀ a j, j < s1 → (a ≠ 6 * q - 16 ∨ j + 1 ≠ s1) → (6 * q - 21 ≤ a ∧ a ≤ 6 * q - 16) → zA y a j = zA z a j := fun a j a1 a2 a3 => y2.2.2.2.1 a j (by unfold sA eA; omega) (fun w => by rcases a2 with q | q; exact q w.2.1; exact q w.2.2)
      rw [hgl, ← Nat.add_assoc]
      refine ⟨s', r, y1, ?_, ?_, ?_, fun e => ?_, ?_, y7, by omega, y9⟩
      · refine ⟨fun o k a => (y2.1 o k a).trans (z3.1 o k a), fun o k a => (y2.2.1 o k a).trans (z3.2.1 o k a), fun o k => (y2.2.2.1 o k).trans (z3.2.2.1 o k), fun a j a1 a2 => (y2.2.2.2.1 a j (by unfold sA eA at *; omega) (fun w => a1 (by unfold sA eA; omega))).trans (z3.2.2.2.1 a j a1 a2), fun a j a1 => (y2.2.2.2.2 a j a1).trans (z3.2.2.2.2 a j a1)⟩
      · rw [crp_C]
        refine ⟨s1 - 1, hr, by omega, by omega, ?_, ?_⟩
        · rw [show s1 - 1 + 1 = s1 by omega]
          subst hT
          exact (crp_frame (fnd' := fnd) hL.1 _).2.2 _ _ _ _ _ _ rfl _ _ _ (fun a j a1 a2 a3 a4 a5 => hlow a j a4 (by omega) ⟨a1, a2⟩) z4
        · rw [show s1 - 1 + 1 = s1 by omega, y5 (by omega)]
          exact y3
      · rw [y4, if_neg (by omega)]
      · rw [hlow _ _ (by omega) (by omega) (by omega)]
        exact (z7 e).2
      · rw [gn_C]
        show cdC ln q y p ((gn st (nI np) T).2 p ++ (gn st (nI np) A).2 (p + ((gn st (nI np) T).2 p).length))
        refine cdC_app ?_ ?_
        · intro hl j v hj
          have hjl : j < ((gn st (nI np) T).2 p).length := by
            by_cases e : j < ((gn st (nI np) T).2 p).length
            · exact e
            · rw [List.getElem?_eq_none (by omega)] at hj; cases hj
          rw [y2.2.2.2.1 _ _ (by unfold sA eA; omega) (by omega)]
          exact z5 hl j v hj
        · rw [hlen]; exact y6
  rw [hx3]
  by_cases e : i = 0
  · rw [if_pos e] at key ⊢
    rw [bnd_e, nI_1]
    exact key
  · rw [if_neg e] at key ⊢
    rw [bnd_e, nI_1]
    exact key
end
