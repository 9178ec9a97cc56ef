/-! THE REFERENCE'S READER: LOCALS and S of a BLOCK -/
def SRp (x : Nat → Int32) (n tc : Nat) (G : gE) (N fn : Nat) (R : ySrec) : Prop := ∀ (ns : Nat) (L : lE) (pl ms : Nat) (tk : yTok) (c nd bf o m k : Nat) (x1 : Int32) (τ : zSt) (Q : Int32 → zSt → Prop),
  SB x n tc G L tk c ns nd bf pl fn ms o τ → BD n tc tk c ns nd 0 → WS τ o → 1 ≤ o → o ≤ ns → bf ≤ L.2.2 → L.2.2 ≤ tk.2.1 → pl ≤ ms → ms ≤ tk.2.1 → 2 * n + 60 + k ≤ m + 2 * tk.2.1 → R ns L pl ms tk c ≠ .error 0 →
  (∀ t tk' c' ms' i nd' m' u, R ns L pl ms tk c = .ok (t, tk', c', ms') → SB x n tc G L tk' c' ns nd' bf pl fn ms' o u → BD n tc tk' c' ns nd' 0 → fB nd o L.2.2 fn τ u → nd ≤ nd' → rep u t nd nd' (nI i) → zA u 21 i = -1 → i < 4200 → rng nd nd' i → tk.2.1 < tk'.2.1 → ms ≤ ms' → ms' ≤ tk'.2.1 → 2 * n + 62 + k ≤ m' + 2 * tk'.2.1 → wp (fX12_block_b18 N m' x1 (nI i) u) Q) →
  (∀ e r u, R ns L pl ms tk c = .error e → e ≠ 0 → EB x n e τ u → Q r u) → wp (obd (fX12_statement N τ) (fun r u => fX12_block_b18 N m x1 r u)) Q
/-- the BLOCK that is open at o: its node, where its next S is linked, what it found -/
def BT (o bn ca ci bf0 l0 pl0 : Nat) (dc : Bool) (τ : zSt) : Prop := zA τ 22 o = 0 ∧ zA τ 23 o = nI bn ∧ zA τ 25 o = b01 dc ∧ zA τ 26 o = nI bf0 ∧ zA τ 27 o = nI l0 ∧ zA τ 28 o = nI pl0 ∧ ((zA τ 24 o = -1 ∧ ca = 16 ∧ ci = bn) ∨ (zA τ 24 o = nI ci ∧ ca = 21))
theorem BT_cong {o bn ca ci bf0 l0 pl0 : Nat} {dc : Bool} {τ u : zSt} (h : BT o bn ca ci bf0 l0 pl0 dc τ) (hf : ∀ a, 22 ≤ a → a ≤ 28 → zA u a o = zA τ a o) : BT o bn ca ci bf0 l0 pl0 dc u := by
  unfold BT
  rw [hf 22 (by omega) (by omega), hf 23 (by omega) (by omega), hf 24 (by omega) (by omega), hf 25 (by omega) (by omega), hf 26 (by omega) (by omega), hf 27 (by omega) (by omega), hf 28 (by omega) (by omega)]
  exact h
theorem BT_WS {o bn ca ci bf0 l0 pl0 : Nat} {dc : Bool} {τ : zSt} (h : BT o bn ca ci bf0 l0 pl0 dc τ) (hw : WS τ o) (h1 : bn < 4200) (h2 : ci < 4200) : WS τ (o + 1) := by
  obtain ⟨q1, q2, q3, q4, q5, q6, q7⟩ := h
  intro i hi
  by_cases e : i = o
  · subst e
    refine ⟨⟨bn, h1, q2⟩, Or.inl q1, fun _ => ⟨?_, ?_⟩, fun e => by rw [e] at q1; exact q1⟩
    · rcases q7 with ⟨q, -⟩ | ⟨q, -⟩
      · exact Or.inl q
      · exact Or.inr ⟨ci, h2, q⟩
    · rw [q3]
      cases dc
      · exact Or.inl rfl
      · exact Or.inr rfl
  · obtain ⟨w1, w2, w3, w4⟩ := hw i (by omega)
    exact ⟨w1, w2, w3, w4⟩
def fBs (lo o ln fn ca ci : Nat) (τ u : zSt) : Prop := (∀ j, ¬ (j = 17 ∨ j = 18 ∨ j = 19 ∨ j = 21 ∨ j = 30 ∨ j = 33 ∨ j = 34 ∨ j = 36 ∨ j = 37 ∨ j = 38 ∨ j = 46 ∨ j = 54) → zI u 0 j = zI τ 0 j) ∧
  (∀ a i, ¬ (15 ≤ a ∧ a ≤ 21 ∧ lo ≤ i) → ¬ (22 ≤ a ∧ a ≤ 28 ∧ o ≤ i) → ¬ (29 ≤ a ∧ a ≤ 33) → ¬ (a = 14 ∧ ln ≤ i) → ¬ (a = 12 ∧ i = fn) → ¬ (a = ca ∧ i = ci) → zA u a i = zA τ a i) ∧ (∀ a i, ¬ (a = 13 ∧ ln ≤ i) → zB u a i = zB τ a i)
theorem fBs_P {lo o ln fn ca ci : Nat} {τ u : zSt} (h : fBs lo o ln fn ca ci τ u) (hc : ca = 16 ∨ ca = 21) : fP τ u := ⟨fun j hj => h.1 j (by omega), fun a i ha => h.2.1 a i (by omega) (by omega) (by omega) (by omega) (by omega) (by omega)⟩
def lpre (L0 L : lE) : Prop := L0.2.2 ≤ L.2.2 ∧ ∀ j, j < L0.2.2 → L.1 j = L0.1 j ∧ L.2.1 j = L0.2.1 j
theorem appR {N o bn ca ci bf0 l0 pl0 i : Nat} {dc : Bool} {u : zSt} (h46 : zI u 0 46 = nI (o + 1)) (ho : o < 100) (hB : BT o bn ca ci bf0 l0 pl0 dc u) (h1 : bn < 4200) (h2 : ci < 4200) (hi : i < 4200) : fX12_inBlock N (nI i) u = some (-1, zsA (zsA u ca ci (nI i)) 24 o (nI i)) := by
  obtain ⟨q1, q2, q3, q4, q5, q6, q7⟩ := hB
  unfold fX12_inBlock
  rw [bnd_e, if_neg (nI_pos (by omega))]
  unfold fX12_append
  rw [bnd_e, h46, nI_pred, nI_clamp (by omega), if_neg (ixN ho (by omega))]
  rcases q7 with ⟨q, rfl, rfl⟩ | ⟨q, rfl⟩
  · rw [q, if_pos rfl, if_neg (ixN ho (by omega)), q2, nI_clamp (by omega), if_neg (ixN h1 (by omega)), bnd_e]
    unfold fX12_append_b44
    rw [nI_clamp (by omega), if_neg (ixN ho (by omega)), bnd_e, obd_s]
  · have hne : ¬ nI ci = -1 := fun q => by have h1 := nI_pos' (n := ci) (by omega); rw [q] at h1; exact absurd h1 (by decide)
    rw [q, if_neg hne, if_neg (ixN ho (by omega)), nI_clamp (by omega), if_neg (ixN h2 (by omega)), bnd_e]
    unfold fX12_append_b44
    rw [nI_clamp (by omega), if_neg (ixN ho (by omega)), bnd_e, obd_s]
theorem SB_A {x : Nat → Int32} {n tc : Nat} {G : gE} {L : lE} {tk : yTok} {c ns nd bf pl fn ms o a i : Nat} {v : Int32} {τ : zSt} (h : SB x n tc G L tk c ns nd bf pl fn ms o τ) (ha : 15 ≤ a ∧ a ≤ 33) : SB x n tc G L tk c ns nd bf pl fn ms o (zsA τ a i v) := by
  refine ⟨SV_A h.1 ha, h.2.1, h.2.2.1, h.2.2.2.1, ?_, h.2.2.2.2.2⟩
  rw [zA_A, if_neg (by omega)]
  exact h.2.2.2.2.1
theorem xb_as {α β γ : Type} (a : Except Int32 α) (f : α → Except Int32 β) (g : β → Except Int32 γ) : xb (xb a f) g = xb a (fun v => xb (f v) g) := by
  cases a with
  | error e => rfl
  | ok v => rfl
theorem yItems_52 {x : Nat → Int32} {n tc : Nat} {G : gE} {R : ySrec} {f : Nat} {dc : Bool} {bf ns : Nat} {L : lE} {pl ms : Nat} {tk : yTok} {c : Nat} (h : tk.2.2.1 = 52) : yItems x n tc G R (f + 1) dc bf ns L pl ms tk c = .ok (fZ, tk, c, ms) := by
  unfold yItems
  rw [if_pos h]
theorem yItems_loc {x : Nat → Int32} {n tc : Nat} {G : gE} {R : ySrec} {f : Nat} {dc : Bool} {bf ns : Nat} {L : lE} {pl ms : Nat} {tk : yTok} {c : Nat} (h : tk.2.2.1 ≠ 52) (h2 : dc = true ∧ tk.2.2.1 = 42) : yItems x n tc G R (f + 1) dc bf ns L pl ms tk c = xb (yLoc x n tc G bf ns L tk c) (fun v => xb (yItems x n tc G R f true bf ns (lAdd L v.2.1 (nI pl)) (pl + 1) (max ms (pl + 1)) v.2.2.1 v.2.2.2) (fun r => .ok (fC (fN 21 pl 0 v.1 fZ fZ) r.1, r.2))) := by
  rw [yItems, if_neg h, if_pos h2]
  unfold yLoc
  rw [xb_as]
  cases cm x n tk with
  | error e => rfl
  | ok t1 =>
    rw [xb_k, xb_k, xb_as]
    cases need 40 t1 with
    | error e => rfl
    | ok y =>
      rw [xb_k, xb_k]
      by_cases hd : dupL L bf t1.2.2.2 = true
      · rw [if_pos hd, if_pos hd]; rfl
      · rw [if_neg hd, if_neg hd, xb_as]
        cases cm x n t1 with
        | error e => rfl
        | ok t2 =>
          rw [xb_k, xb_k, xb_as]
          cases (if t2.2.2.1 = 57 then xb (cm x n t2) (fun t3 => yE x n tc G L 42 ns 56 t3 c) else Except.ok (fZ, t2, c)) with
          | error e => rfl
          | ok u =>
            rw [xb_k, xb_k, xb_as]
            cases need 56 u.2.1 with
            | error e => rfl
            | ok y2 =>
              rw [xb_k, xb_k, xb_as]
              cases cm x n u.2.1 with
              | error e => rfl
              | ok t5 => rfl
theorem yItems_st {x : Nat → Int32} {n tc : Nat} {G : gE} {R : ySrec} {f : Nat} {dc : Bool} {bf ns : Nat} {L : lE} {pl ms : Nat} {tk : yTok} {c : Nat} (h : tk.2.2.1 ≠ 52) (h2 : ¬ (dc = true ∧ tk.2.2.1 = 42)) : yItems x n tc G R (f + 1) dc bf ns L pl ms tk c = xb (R ns L pl ms tk c) (fun s => xb (yItems x n tc G R f false bf ns L pl s.2.2.2 s.2.1 s.2.2.1) (fun r => .ok (fC s.1 r.1, r.2))) := by
  rw [yItems, if_neg h, if_neg h2]
theorem lpre_add {L0 L : lE} {w : Int64} {p : Int32} (h : lpre L0 L) : lpre L0 (lAdd L w p) := by
  refine ⟨Nat.le_succ_of_le h.1, fun j hj => ?_⟩
  have e : ¬ j = L.2.2 := by have := h.1; omega
  simp only [lAdd, if_neg e]
  exact h.2 j hj
def sW (R : ySrec) : Prop := ∀ ns L pl ms tk c, stk (R ns L pl ms tk c) (fun u => isN u.1)
theorem itemsR {x : Nat → Int32} {n tc : Nat} {G : gE} {N fn : Nat} {R : ySrec} (hn : n ≤ 512) (hN : 5000 ≤ N) (hG : G.2.2.2.2 ≤ 1400) (hfn : fn < 1400) (hR : SRp x n tc G N fn R) (hsW : sW R) {ns0 o bn bf0 pl0 : Nat} {L0 : lE} {x1 : Int32} {Q : Int32 → zSt → Prop} : ∀ (f : Nat) (dc : Bool) (L : lE) (pl ms : Nat) (tk : yTok) (c nd ca ci m k : Nat) (τ : zSt),
    SB x n tc G L tk c (ns0 + 1) nd L0.2.2 pl fn ms (o + 1) τ → BD n tc tk c (ns0 + 1) nd 0 → WS τ o → BT o bn ca ci bf0 L0.2.2 pl0 dc τ → zA τ ca ci = -1 → bn < nd → ci < nd → lpre L0 L → o ≤ ns0 → L.2.2 ≤ tk.2.1 → pl ≤ ms → ms ≤ tk.2.1 → 2 * n + 61 + k ≤ m + 2 * tk.2.1 →
    xb (yItems x n tc G R f dc L0.2.2 (ns0 + 1) L pl ms tk c) (fun r => xb (cm x n r.2.1) (fun t3 => .ok (r.1, t3, r.2.2))) ≠ .error 0 →
    (∀ r tk' c' ms' i nd' m' u, xb (yItems x n tc G R f dc L0.2.2 (ns0 + 1) L pl ms tk c) (fun r => xb (cm x n r.2.1) (fun t3 => .ok (r.1, t3, r.2.2))) = .ok (r, tk', c', ms') → SB x n tc G L0 tk' c' ns0 nd' bf0 pl0 fn ms' o u → BD n tc tk' c' ns0 nd' 0 → fBs nd o L0.2.2 fn ca ci τ u → nd ≤ nd' → zA u ca ci = i → rep u r nd nd' i → tk.2.1 < tk'.2.1 → ms ≤ ms' → ms' ≤ tk'.2.1 → 2 * n + 62 + k ≤ m' + 2 * tk'.2.1 → wp (fX12_block_b18 N m' x1 (nI bn) u) Q) →
    (∀ e r u, xb (yItems x n tc G R f dc L0.2.2 (ns0 + 1) L pl ms tk c) (fun r => xb (cm x n r.2.1) (fun t3 => .ok (r.1, t3, r.2.2))) = .error e → e ≠ 0 → EB x n e τ u → Q r u) →
    wp (fX12_block_b18 N m x1 (-1) τ) Q := by
  intro f
  induction f with
  | zero => intro dc L pl ms tk c nd ca ci m k τ _ _ _ _ _ _ _ _ _ _ _ _ _ h0; exact absurd rfl h0
  | succ f ih =>
    intro dc L pl ms tk c nd ca ci m k τ hV hB hW hT hslot hbn hci hpre ho hL hpl hms hm h0 hok her
    have hBl := BD_le hB hn
    have hB' := hB
    obtain ⟨b1, b2, b3, b4, b5, b6⟩ := hB
    have hpn : tk.2.1 ≤ n := by have := b1.1; have := b1.2.1; omega
    have hT' := hT
    obtain ⟨q1, q2, q3, q4, q5, q6, q7⟩ := hT
    have hca : ca = 16 ∨ ca = 21 := by rcases q7 with ⟨-, q, -⟩ | ⟨-, q⟩ <;> omega
    have hK := rT_K hV.1.2.1
    have hW1 : WS τ (o + 1) := BT_WS hT' hW (by omega) (by omega)
    obtain ⟨m, rfl⟩ : ∃ g, m = g + 1 := ⟨m - 1, by omega⟩
    rw [bkX hV.1.2.2.1 hV.2.2.2.2.2 (by omega), if_pos q1]
    by_cases h52 : tk.2.2.1 = 52
    · rw [yItems_52 h52, xb_k] at h0 hok her
      have hlt := tk_ne b1 h52 (by decide)
      -- the closing bracket
      have hclose : fX12_inBlock N (-1) τ = some (nI bn, nxS x n tk.1 (zsI (zsI (zsI (zsI (zsI τ 0 37 (nI ns0)) 0 30 (nI L0.2.2)) 0 34 (nI pl0)) 0 33 (nI bf0)) 0 46 (nI o))) := by
        unfold fX12_inBlock
        rw [bnd_e, if_pos (by decide), isSignT ((sB52 hV.1.2.2.1 hK).mpr h52), obd_s, if_neg (by decide), closesT2 ((sB52 hV.1.2.2.1 hK).mpr h52) hV.1.1.1 hV.1.2.1.1 b1.2.1 (by omega) hV.1.2.2.2.2.1, obd_s, hV.2.2.2.2.2, nI_pred, nI_clamp (by omega), if_neg (ixN (show o < 100 by omega) (by omega)), nxS_A, zA_I, q5, bnd_e, nxS_sw (by omega), if_neg (ixN (show o < 100 by omega) (by omega)), nxS_A, zA_I, zA_I, q6, bnd_e, nxS_sw (by omega), if_neg (ixN (show o < 100 by omega) (by omega)), nxS_A, zA_I, zA_I, zA_I, q4, bnd_e, nxS_sw (by omega)]
        have e46 : zI (nxS x n tk.1 (zsI (zsI (zsI (zsI τ 0 37 (nI ns0)) 0 30 (nI L0.2.2)) 0 34 (nI pl0)) 0 33 (nI bf0))) 0 46 = nI (o + 1) := by
          rw [nxS_I (by omega), zI_I, if_neg (by omega), zI_I, if_neg (by omega), zI_I, if_neg (by omega), zI_I, if_neg (by omega)]
          exact hV.2.2.2.2.2
        rw [e46, nI_pred, bnd_e, nxS_sw (by omega), if_neg (ixN (show o < 100 by omega) (by omega)), nxS_A, zA_I, zA_I, zA_I, zA_I, zA_I, q2]
      rw [hclose, obd_s]
      have hS2 : SB x n tc G L0 tk c ns0 nd bf0 pl0 fn ms o (zsI (zsI (zsI (zsI (zsI τ 0 37 (nI ns0)) 0 30 (nI L0.2.2)) 0 34 (nI pl0)) 0 33 (nI bf0)) 0 46 (nI o)) := by
        obtain ⟨⟨⟨⟨r1, r1b, r1c⟩, r2, r3, r4, r5, r6⟩, t1, s1, s2, s3, s4⟩, h33, h34, h35, h12, h46⟩ := hV
        refine ⟨⟨⟨⟨?_, r1b, r1c⟩, ?_, ?_, r4, ?_, fun j hj => ?_⟩, ?_, ?_, ?_, ?_, ?_⟩, ?_, ?_, ?_, h12, ?_⟩
        · simp only [zI_I, zI_L, zI_R, zI_A, zI_B, zL_I, zL_L, zL_R, zL_A, zL_B, zA_I, zA_L, zA_R, zA_A, zA_B, zB_I, zB_L, zB_R, zB_A, zB_B, reduceIte, Nat.reduceEqDiff, Nat.reduceEqDiff, false_and, and_false, true_and, and_true, ne_eq, not_false_eq_true, not_true_eq_false]; exact r1
        · simp only [zI_I, zI_L, zI_R, zI_A, zI_B, zL_I, zL_L, zL_R, zL_A, zL_B, zA_I, zA_L, zA_R, zA_A, zA_B, zB_I, zB_L, zB_R, zB_A, zB_B, reduceIte, Nat.reduceEqDiff, Nat.reduceEqDiff, false_and, and_false, true_and, and_true, ne_eq, not_false_eq_true, not_true_eq_false]; exact r2
        · simp only [zI_I, zI_L, zI_R, zI_A, zI_B, zL_I, zL_L, zL_R, zL_A, zL_B, zA_I, zA_L, zA_R, zA_A, zA_B, zB_I, zB_L, zB_R, zB_A, zB_B, reduceIte, Nat.reduceEqDiff, Nat.reduceEqDiff, false_and, and_false, true_and, and_true, ne_eq, not_false_eq_true, not_true_eq_false]; exact r3
        · simp only [zI_I, zI_L, zI_R, zI_A, zI_B, zL_I, zL_L, zL_R, zL_A, zL_B, zA_I, zA_L, zA_R, zA_A, zA_B, zB_I, zB_L, zB_R, zB_A, zB_B, reduceIte, Nat.reduceEqDiff, Nat.reduceEqDiff, false_and, and_false, true_and, and_true, ne_eq, not_false_eq_true, not_true_eq_false]
        · obtain ⟨p1, p2⟩ := hpre
          obtain ⟨v1, v2⟩ := r6 j (by omega)
          exact ⟨v1.trans (p2 j hj).1, v2.trans (p2 j hj).2⟩
        · unfold rT; simp only [zI_I, zI_L, zI_R, zI_A, zI_B, zL_I, zL_L, zL_R, zL_A, zL_B, zA_I, zA_L, zA_R, zA_A, zA_B, zB_I, zB_L, zB_R, zB_A, zB_B, reduceIte, Nat.reduceEqDiff, Nat.reduceEqDiff, false_and, and_false, true_and, and_true, ne_eq, not_false_eq_true, not_true_eq_false]; exact t1
        · simp only [zI_I, zI_L, zI_R, zI_A, zI_B, zL_I, zL_L, zL_R, zL_A, zL_B, zA_I, zA_L, zA_R, zA_A, zA_B, zB_I, zB_L, zB_R, zB_A, zB_B, reduceIte, Nat.reduceEqDiff, Nat.reduceEqDiff, false_and, and_false, true_and, and_true, ne_eq, not_false_eq_true, not_true_eq_false]; exact s1
        · simp only [zI_I, zI_L, zI_R, zI_A, zI_B, zL_I, zL_L, zL_R, zL_A, zL_B, zA_I, zA_L, zA_R, zA_A, zA_B, zB_I, zB_L, zB_R, zB_A, zB_B, reduceIte, Nat.reduceEqDiff, Nat.reduceEqDiff, false_and, and_false, true_and, and_true, ne_eq, not_false_eq_true, not_true_eq_false]; exact s2
        · simp only [zI_I, zI_L, zI_R, zI_A, zI_B, zL_I, zL_L, zL_R, zL_A, zL_B, zA_I, zA_L, zA_R, zA_A, zA_B, zB_I, zB_L, zB_R, zB_A, zB_B, reduceIte, Nat.reduceEqDiff, Nat.reduceEqDiff, false_and, and_false, true_and, and_true, ne_eq, not_false_eq_true, not_true_eq_false]
        · simp only [zI_I, zI_L, zI_R, zI_A, zI_B, zL_I, zL_L, zL_R, zL_A, zL_B, zA_I, zA_L, zA_R, zA_A, zA_B, zB_I, zB_L, zB_R, zB_A, zB_B, reduceIte, Nat.reduceEqDiff, Nat.reduceEqDiff, false_and, and_false, true_and, and_true, ne_eq, not_false_eq_true, not_true_eq_false]; exact s4
        · simp only [zI_I, zI_L, zI_R, zI_A, zI_B, zL_I, zL_L, zL_R, zL_A, zL_B, zA_I, zA_L, zA_R, zA_A, zA_B, zB_I, zB_L, zB_R, zB_A, zB_B, reduceIte, Nat.reduceEqDiff, Nat.reduceEqDiff, false_and, and_false, true_and, and_true, ne_eq, not_false_eq_true, not_true_eq_false]
        · simp only [zI_I, zI_L, zI_R, zI_A, zI_B, zL_I, zL_L, zL_R, zL_A, zL_B, zA_I, zA_L, zA_R, zA_A, zA_B, zB_I, zB_L, zB_R, zB_A, zB_B, reduceIte, Nat.reduceEqDiff, Nat.reduceEqDiff, false_and, and_false, true_and, and_true, ne_eq, not_false_eq_true, not_true_eq_false]
        · simp only [zI_I, zI_L, zI_R, zI_A, zI_B, zL_I, zL_L, zL_R, zL_A, zL_B, zA_I, zA_L, zA_R, zA_A, zA_B, zB_I, zB_L, zB_R, zB_A, zB_B, reduceIte, Nat.reduceEqDiff, Nat.reduceEqDiff, false_and, and_false, true_and, and_true, ne_eq, not_false_eq_true, not_true_eq_false]; exact h35
        · simp only [zI_I, zI_L, zI_R, zI_A, zI_B, zL_I, zL_L, zL_R, zL_A, zL_B, zA_I, zA_L, zA_R, zA_A, zA_B, zB_I, zB_L, zB_R, zB_A, zB_B, reduceIte, Nat.reduceEqDiff, Nat.reduceEqDiff, false_and, and_false, true_and, and_true, ne_eq, not_false_eq_true, not_true_eq_false]
      have hf2 : fBs nd o L0.2.2 fn ca ci τ (zsI (zsI (zsI (zsI (zsI τ 0 37 (nI ns0)) 0 30 (nI L0.2.2)) 0 34 (nI pl0)) 0 33 (nI bf0)) 0 46 (nI o)) := by
        refine ⟨fun j hj => ?_, fun a i _ _ _ _ _ _ => rfl, fun a i _ => rfl⟩
        rw [zI_I, if_neg (by omega), zI_I, if_neg (by omega), zI_I, if_neg (by omega), zI_I, if_neg (by omega), zI_I, if_neg (by omega)]
      have hsl2 : zA (zsI (zsI (zsI (zsI (zsI τ 0 37 (nI ns0)) 0 30 (nI L0.2.2)) 0 34 (nI pl0)) 0 33 (nI bf0)) 0 46 (nI o)) ca ci = -1 := hslot
      have hW2 : WS (zsI (zsI (zsI (zsI (zsI τ 0 37 (nI ns0)) 0 30 (nI L0.2.2)) 0 34 (nI pl0)) 0 33 (nI bf0)) 0 46 (nI o)) o := WS_cong hW (fun a i _ _ _ => rfl)
      revert hS2 hf2 hsl2 hW2
      generalize zsI (zsI (zsI (zsI (zsI τ 0 37 (nI ns0)) 0 30 (nI L0.2.2)) 0 34 (nI pl0)) 0 33 (nI bf0)) 0 46 (nI o) = s2
      intro hS2 hf2 hsl2 hW2
      cases hcm : cm x n tk with
      | error e =>
        rw [hcm] at her
        have he0 := cm_ne hn hcm b1.2.1
        exact pendB (x := x) (n := n) he0 o m bn _ (PD_nx hcm hS2.1.2.2.1) (rD_le (rD_nx (SV_rD hS2.1 b1.2.1 (by omega)) b1.2.1) (by omega)) ((nxS_I (by omega)).trans hS2.2.2.2.2.2) (by omega) (WS_cong hW2 (fun a i _ _ _ => nxS_A)) (by omega) (by omega) (fun r z hz => her e r z rfl he0 (EB_tr hz (nxS_P (fBs_P hf2 hca))))
      | ok t3 =>
        rw [hcm] at hok
        have ht3 := sat_get (cm_ok (x := x) (n := n) (t := tk) (by omega) b1.2.1) hcm
        have hh3 := ht3.2
        refine hok fZ t3 c ms (-1) nd m _ rfl (SB_fE (lo := 0) hS2 (SV_n hcm hS2.1) (nxS_E fE_refl)) ⟨ht3.1, b2, b3, by omega, by omega, by omega⟩ ⟨fun j hj => (nxS_I (by omega)).trans (hf2.1 j hj), fun a i p1 p2 p3 p4 p5 p6 => nxS_A.trans (hf2.2.1 a i p1 p2 p3 p4 p5 p6), fun a i p => nxS_B.trans (hf2.2.2 a i p)⟩ (Nat.le_refl _) (nxS_A.trans hsl2) ?_ (by omega) (Nat.le_refl _) (by omega) (by omega)
        exact rep_e rfl
    · generalize hRES : xb (yItems x n tc G R (f + 1) dc L0.2.2 (ns0 + 1) L pl ms tk c) (fun r => xb (cm x n r.2.1) (fun t3 => .ok (r.1, t3, r.2.2))) = RES at h0 hok her
      -- an S or LOCAL is there: it is linked, and the rest goes on
      have link : ∀ (dc' : Bool) (L' : lE) (pl' ms' : Nat) (tk' : yTok) (c' nd' i m' : Nat) (t : fT) (u : zSt), SB x n tc G L' tk' c' (ns0 + 1) nd' L0.2.2 pl' fn ms' (o + 1) u → BD n tc tk' c' (ns0 + 1) nd' 0 → fB nd (o + 1) L.2.2 fn (zsA τ 25 o (b01 dc')) u → nd ≤ nd' → rep u t nd nd' (nI i) → isN t → zA u 21 i = -1 → i < 4200 → rng nd nd' i → lpre L0 L' → L.2.2 ≤ L'.2.2 → tk.2.1 < tk'.2.1 → ms ≤ ms' → ms' ≤ tk'.2.1 → L'.2.2 ≤ tk'.2.1 → pl' ≤ ms' → 2 * n + 62 + k ≤ m' + 2 * tk'.2.1 →
          RES = xb (yItems x n tc G R f dc' L0.2.2 (ns0 + 1) L' pl' ms' tk' c') (fun r => xb (cm x n r.2.1) (fun t3 => .ok (fC t r.1, t3, r.2.2))) → wp (fX12_block_b18 N m' x1 (nI i) u) Q := by
        intro dc' L' pl' ms' tk' c' nd' i m' t u hVu hBu hfu hndu hrep hisN h21 hi hri hpre' hLL hpl' hms' hms2 hL' hplms hmu hEq
        have hBlu := BD_le hBu hn
        have hpnu : tk'.2.1 ≤ n := by have := hBu.1.1; have := hBu.1.2.1; omega
        have h25 : ∀ a, 22 ≤ a → a ≤ 28 → zA u a o = zA (zsA τ 25 o (b01 dc')) a o := fun a p1 p2 => hfu.2.1 a o (by omega) (by omega) (by omega) (by omega) (by omega)
        have hTu : BT o bn ca ci bf0 L0.2.2 pl0 dc' u := by
          refine BT_cong (τ := zsA τ 25 o (b01 dc')) ?_ h25
          refine ⟨?_, ?_, ?_, ?_, ?_, ?_, ?_⟩
          · rw [zA_A, if_neg (by omega)]; exact q1
          · rw [zA_A, if_neg (by omega)]; exact q2
          · rw [zA_A, if_pos ⟨rfl, rfl⟩]
          · rw [zA_A, if_neg (by omega)]; exact q4
          · rw [zA_A, if_neg (by omega)]; exact q5
          · rw [zA_A, if_neg (by omega)]; exact q6
          · rw [zA_A, if_neg (by omega)]; exact q7
        obtain ⟨m', rfl⟩ : ∃ g, m' = g + 1 := ⟨m' - 1, by omega⟩
        rw [bkX hVu.1.2.2.1 hVu.2.2.2.2.2 (by omega), if_pos hTu.1, appR hVu.2.2.2.2.2 (by omega) hTu (by omega) (by omega) hi, obd_s]
        have hr1 := hri.1
        have hr2 := hri.2
        have hV2 : SB x n tc G L' tk' c' (ns0 + 1) nd' L0.2.2 pl' fn ms' (o + 1) (zsA (zsA u ca ci (nI i)) 24 o (nI i)) := SB_A (SB_A hVu (by omega)) (by omega)
        have hA2 : ∀ a j, ¬ (a = ca ∧ j = ci) → ¬ (a = 24 ∧ j = o) → zA (zsA (zsA u ca ci (nI i)) 24 o (nI i)) a j = zA u a j := fun a j p1 p2 => by rw [zA_A, if_neg p2, zA_A, if_neg p1]
        have hc2 : zA (zsA (zsA u ca ci (nI i)) 24 o (nI i)) ca ci = nI i := by rw [zA_A, if_neg (by omega), zA_A, if_pos ⟨rfl, rfl⟩]
        have h242 : zA (zsA (zsA u ca ci (nI i)) 24 o (nI i)) 24 o = nI i := by rw [zA_A, if_pos ⟨rfl, rfl⟩]
        have hI2 : ∀ j, zI (zsA (zsA u ca ci (nI i)) 24 o (nI i)) 0 j = zI u 0 j := fun j => by rw [zI_A, zI_A]
        have hBz2 : ∀ a j, zB (zsA (zsA u ca ci (nI i)) 24 o (nI i)) a j = zB u a j := fun a j => by rw [zB_A, zB_A]
        have hP2 : fP τ (zsA (zsA u ca ci (nI i)) 24 o (nI i)) := fP_A (fP_A (fP_trans (fP_A fP_refl (by omega)) (fB_P hfu)) (by omega)) (by omega)
        revert hV2 hA2 hc2 h242 hI2 hBz2 hP2
        generalize zsA (zsA u ca ci (nI i)) 24 o (nI i) = u2
        intro hV2 hA2 hc2 h242 hI2 hBz2 hP2
        have hT2 : BT o bn 21 i bf0 L0.2.2 pl0 dc' u2 := by
          obtain ⟨p1, p2, p3, p4, p5, p6, -⟩ := hTu
          refine ⟨?_, ?_, ?_, ?_, ?_, ?_, Or.inr ⟨h242, rfl⟩⟩
          · rw [hA2 22 o (by omega) (by omega)]; exact p1
          · rw [hA2 23 o (by omega) (by omega)]; exact p2
          · rw [hA2 25 o (by omega) (by omega)]; exact p3
          · rw [hA2 26 o (by omega) (by omega)]; exact p4
          · rw [hA2 27 o (by omega) (by omega)]; exact p5
          · rw [hA2 28 o (by omega) (by omega)]; exact p6
        have hW2 : WS u2 o := WS_cong hW (fun a j p1 p2 p3 => by
          rw [hA2 a j (by omega) (by omega), hfu.2.1 a j (by omega) (by omega) (by omega) (by omega) (by omega), zA_A, if_neg (by omega)])
        have h212 : zA u2 21 i = -1 := (hA2 21 i (by omega) (by omega)).trans h21
        have hmap : ∀ v, xb (yItems x n tc G R f dc' L0.2.2 (ns0 + 1) L' pl' ms' tk' c') (fun r => xb (cm x n r.2.1) (fun t3 => .ok (r.1, t3, r.2.2))) = .ok v → RES = .ok (fC t v.1, v.2) := by
          intro v hv
          rw [hEq]
          cases hy : yItems x n tc G R f dc' L0.2.2 (ns0 + 1) L' pl' ms' tk' c' with
          | error e => rw [hy] at hv; cases hv
          | ok r =>
            rw [hy, xb_k] at hv
            rw [xb_k]
            cases hc : cm x n r.2.1 with
            | error e => rw [hc] at hv; cases hv
            | ok t3 => rw [hc, xb_k] at hv; cases hv; rfl
        have hmapE : ∀ e, xb (yItems x n tc G R f dc' L0.2.2 (ns0 + 1) L' pl' ms' tk' c') (fun r => xb (cm x n r.2.1) (fun t3 => .ok (r.1, t3, r.2.2))) = .error e → RES = .error e := by
          intro e hv
          rw [hEq]
          cases hy : yItems x n tc G R f dc' L0.2.2 (ns0 + 1) L' pl' ms' tk' c' with
          | error e2 => rw [hy] at hv; cases hv; rfl
          | ok r =>
            rw [hy, xb_k] at hv
            rw [xb_k]
            cases hc : cm x n r.2.1 with
            | error e2 => rw [hc] at hv; cases hv; rfl
            | ok t3 => rw [hc, xb_k] at hv; cases hv
        refine ih dc' L' pl' ms' tk' c' nd' 21 i m' k u2 hV2 hBu hW2 hT2 h212 (by omega) (by omega) hpre' ho hL' hplms hms2 (by omega) (fun q => h0 (hmapE 0 q)) ?_ ?_
        · intro r tk2 c2 ms2 i2 nd2 m2 u3 hres3 hV3 hB3 hf3 hnd3 hs3 hr3 hp3 hm3 hm3b hfu3
          refine hok (fC t r) tk2 c2 ms2 (nI i) nd2 m2 u3 (hmap _ hres3) hV3 hB3 ⟨fun j hj => ?_, fun a j p1 p2 p3 p4 p5 p6 => ?_, fun a j p => ?_⟩ (by omega) ?_ ?_ (by omega) (by omega) hm3b hfu3
          · rw [hf3.1 j hj, hI2, hfu.1 j hj, zI_A]
          · rw [hf3.2.1 a j (by omega) p2 p3 p4 p5 (by omega), hA2 a j p6 (by omega), hfu.2.1 a j p1 (by omega) p3 (by have := hpre.1; omega) p5, zA_A, if_neg (by omega)]
          · rw [hf3.2.2 a j p, hBz2, hfu.2.2 a j (by have := hpre.1; omega), zB_A]
          · rw [hf3.2.1 ca ci (by omega) (by omega) (by omega) (by omega) (by omega) (by omega)]; exact hc2
          · rw [rep_C]
            obtain ⟨k1, v1, w1, A1, B1, C1, rfl⟩ := hisN
            refine ⟨i, nd', rfl, hi, ⟨hr1, by omega⟩, by omega, ?_, ?_⟩
            · refine rep_root (τ := u) (m := i) (fun j hj => ⟨hj, fun a p1 p2 => ?_, fun p => ?_⟩) hi hrep
              · rw [hf3.2.1 a j (by have := hj.2; omega) (by omega) (by omega) (by omega) (by omega) (by omega), hA2 a j (by have := hj.1; omega) (by omega)]
              · rw [hf3.2.1 21 j (by have := hj.2; omega) (by omega) (by omega) (by omega) (by omega) (by omega), hA2 21 j (by have := hj.1; omega) (by omega)]
            · rw [hs3]
              exact rep_frame _ _ _ _ (fun j hj => ⟨hj, fun a _ _ => rfl⟩) hr3
        · intro e r u3 hres3 he0 heb
          exact her e r u3 (hmapE e hres3) he0 (EB_tr heb hP2)
      have hlt : tk.2.1 < tk.1 ∨ tk.2.2.1 = 58 := by rcases b1.2.2.1 with q | q; exact Or.inr q; exact Or.inl q
      by_cases hdl : dc = true ∧ tk.2.2.1 = 42
      · -- a LOCAL
        rw [yItems_loc h52 hdl] at hRES
        have hin : fX12_inBlock N (-1) τ = obd (fX12_tellLocal N (zsA τ 25 o 1)) (fun r u => some (r, u)) := by
          unfold fX12_inBlock
          have e25 : zA (zsA τ 25 o 1) 25 o = 1 := by rw [zA_A, if_pos ⟨rfl, rfl⟩]
          have q3' : zA τ 25 o = 1 := by rw [q3, hdl.1]; rfl
          rw [bnd_e, if_pos (by decide), isSignF (sF52 hV.1.2.2.1 hK h52), obd_s, if_pos rfl, hV.2.2.2.2.2, nI_pred, nI_clamp (by omega), if_neg (ixN (show o < 100 by omega) (by omega)), q3', if_neg (by decide), isWordT ((wB42 hV.1.2.2.1 hK).mpr hdl.2), obd_s, if_neg (by decide)]
          unfold fX12_inBlock_b107
          rw [nI_clamp (by omega), if_neg (ixN (show o < 100 by omega) (by omega)), if_neg (by decide), bnd_e, if_neg (ixN (show o < 100 by omega) (by omega)), if_neg (by rw [e25]; decide)]
        rw [hin, obd_obd]
        have hVt : SB x n tc G L tk c (ns0 + 1) nd L0.2.2 pl fn ms (o + 1) (zsA τ 25 o 1) := SB_A hV (by omega)
        have h0l : yLoc x n tc G L0.2.2 (ns0 + 1) L tk c ≠ .error 0 := fun q => h0 (by rw [← hRES, q]; rfl)
        refine wp_obd (wp_mono (tlR hn hN hG hVt hB' (by rw [hdl.2]; decide) (by omega) (by have := hpre.1; omega) (by omega) (by omega) hfn h0l) (fun r u hq => ?_))
        cases hy : yLoc x n tc G L0.2.2 (ns0 + 1) L tk c with
        | error e =>
          rw [hy] at hRES
          obtain ⟨he0, hc⟩ := hq.1 e hy
          rcases hc with hfx | ⟨p1, p2, p3, p4, rfl⟩
          · obtain ⟨m, rfl⟩ : ∃ g, m = g + 1 := ⟨m - 1, by omega⟩
            exact bkE (by rw [hfx.1]; exact he0) (her e _ u hRES.symm he0 (Or.inl ⟨hfx.1, hfx.2.1, fP_trans (fP_A fP_refl (by omega)) hfx.2.2⟩))
          · have hWt : WS (zsA τ 25 o 1) (o + 1) := by
              have hT1 : BT o bn ca ci bf0 L0.2.2 pl0 true (zsA τ 25 o 1) := by
                refine ⟨?_, ?_, ?_, ?_, ?_, ?_, ?_⟩
                · rw [zA_A, if_neg (by omega)]; exact q1
                · rw [zA_A, if_neg (by omega)]; exact q2
                · rw [zA_A, if_pos ⟨rfl, rfl⟩]; rfl
                · rw [zA_A, if_neg (by omega)]; exact q4
                · rw [zA_A, if_neg (by omega)]; exact q5
                · rw [zA_A, if_neg (by omega)]; exact q6
                · rw [zA_A, if_neg (by omega)]; exact q7
              exact BT_WS hT1 (WS_cong hW (fun a j w1 w2 w3 => by rw [zA_A, if_neg (by omega)])) (by omega) (by omega)
            exact pendB (x := x) (n := n) he0 (o + 1) m nd u p1 p2 p4 (by omega) (fB_WS p3 hWt (Nat.le_refl _)) (by omega) (by omega) (fun r z hz => her e r z hRES.symm he0 (EB_tr hz (fP_trans (fP_A fP_refl (by omega)) (fB_P p3))))
        | ok v =>
          obtain ⟨nd', rfl, hVu, hBu, hfu, hndu, hrep, h21, hplu⟩ := hq.2 v.1 v.2.1 v.2.2.1 v.2.2.2 hy
          have hEq : RES = xb (yItems x n tc G R f true L0.2.2 (ns0 + 1) (lAdd L v.2.1 (nI pl)) (pl + 1) (max ms (pl + 1)) v.2.2.1 v.2.2.2) (fun r => xb (cm x n r.2.1) (fun t3 => .ok (fC (fN 21 pl 0 v.1 fZ fZ) r.1, t3, r.2.2))) := by
            rw [← hRES, hy, xb_k, xb_as]
            rfl
          have hBu' := hBu.1.1
          exact link true _ (pl + 1) (max ms (pl + 1)) v.2.2.1 v.2.2.2 nd' nd m (fN 21 pl 0 v.1 fZ fZ) u hVu hBu hfu (by omega) hrep isN_N h21 (by omega) ⟨Nat.le_refl _, by omega⟩ (lpre_add hpre) (Nat.le_succ _) (by omega) (by omega) (by omega) (by show L.2.2 + 1 ≤ v.2.2.1.2.1; omega) (by omega) (by omega) hEq
      · rw [yItems_st h52 hdl] at hRES
        have hin : fX12_inBlock N (-1) τ = obd (fX12_statement N (zsA τ 25 o 0)) (fun r u => some (r, u)) := by
          unfold fX12_inBlock
          have e25 : zA (zsA τ 25 o 0) 25 o = 0 := by rw [zA_A, if_pos ⟨rfl, rfl⟩]
          have hb : fX12_inBlock_b106 N (nI o) (nI o) τ = obd (fX12_statement N (zsA τ 25 o 0)) (fun r u => some (r, u)) := by
            unfold fX12_inBlock_b106 fX12_inBlock_b107
            rw [nI_clamp (by omega), if_neg (ixN (show o < 100 by omega) (by omega)), if_neg (by decide), bnd_e, if_neg (ixN (show o < 100 by omega) (by omega)), if_pos e25]
          rw [bnd_e, if_pos (by decide), isSignF (sF52 hV.1.2.2.1 hK h52), obd_s, if_pos rfl, hV.2.2.2.2.2, nI_pred, nI_clamp (by omega), if_neg (ixN (show o < 100 by omega) (by omega)), q3]
          cases dc with
          | false => rw [if_pos b01f, hb]
          | true =>
            rw [if_neg (by decide), isWordF (wF42 hV.1.2.2.1 hK (fun q => hdl ⟨rfl, q⟩)), obd_s, if_pos rfl, hb]
        rw [hin, obd_obd]
        have hVt : SB x n tc G L tk c (ns0 + 1) nd L0.2.2 pl fn ms (o + 1) (zsA τ 25 o 0) := SB_A hV (by omega)
        have hT0 : BT o bn ca ci bf0 L0.2.2 pl0 false (zsA τ 25 o 0) := by
          refine ⟨?_, ?_, ?_, ?_, ?_, ?_, ?_⟩
          · rw [zA_A, if_neg (by omega)]; exact q1
          · rw [zA_A, if_neg (by omega)]; exact q2
          · rw [zA_A, if_pos ⟨rfl, rfl⟩]; rfl
          · rw [zA_A, if_neg (by omega)]; exact q4
          · rw [zA_A, if_neg (by omega)]; exact q5
          · rw [zA_A, if_neg (by omega)]; exact q6
          · rw [zA_A, if_neg (by omega)]; exact q7
        have hWt : WS (zsA τ 25 o 0) (o + 1) := BT_WS hT0 (WS_cong hW (fun a j w1 w2 w3 => by rw [zA_A, if_neg (by omega)])) (by omega) (by omega)
        refine hR (ns0 + 1) L pl ms tk c nd L0.2.2 (o + 1) m k x1 (zsA τ 25 o 0) Q hVt hB' hWt (by omega) (by omega) hpre.1 hL hpl hms (by omega) (fun q => h0 (by rw [← hRES, q]; rfl)) ?_ ?_
        · intro t tk' c' ms' i nd' m' u hres hVu hBu hfu hndu hrep h21 hi hri hplu hms1 hms2 hmu
          have hEq : RES = xb (yItems x n tc G R f false L0.2.2 (ns0 + 1) L pl ms' tk' c') (fun r => xb (cm x n r.2.1) (fun t3 => .ok (fC t r.1, t3, r.2.2))) := by
            rw [← hRES, hres, xb_k, xb_as]
            rfl
          exact link false L pl ms' tk' c' nd' i m' t u hVu hBu hfu hndu hrep (hsW _ _ _ _ _ _ _ hres) h21 hi hri hpre (Nat.le_refl _) hplu hms1 hms2 (by omega) (by omega) hmu hEq
        · intro e r u hres he0 heb
          rw [hres] at hRES
          exact her e r u hRES.symm he0 (EB_tr heb (fP_A fP_refl (by omega)))
