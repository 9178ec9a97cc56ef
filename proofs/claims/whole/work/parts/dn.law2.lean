/-! THE LAW: its loop (written by law.py) -/
theorem iL2 : ∀ L : Fin 1030, (Int32.ofNat L.val - 2).toInt = (L.val : Int) - 2 := by decide +kernel
section
variable {p : Program} {l : Launch} {e : Env} {s : State} {m : MethodId} {below : List Frame} {meth : Method} {c : Code} {H : Heap} {locs : List Loc} {Q : State → Prop} {D : va_G} {cy : Nat → ClassId} {b L : Nat} {xs : Nat → Int32} {ad1 ad2 ts : Nat → Nat} {ln : Nat → Nat} {tx tc cc mc io k N : Nat} {σ τ : zSt} {ls : Array Slot}
set_option maxHeartbeats 4000000 in
set_option maxRecDepth 100000 in
theorem law_step (hr : meth.sig.returnType = ret) (hlocks : meth.locks = false) (hC : LC p s m c D cy b L xs ad1 ad2 ts) (hN : 2 ^ 31 ≤ N) (hR : Rel ln tx tc cc mc io k σ τ) (J : LJ D (fun q => s.heap.size ≤ q) s.heap (zW shC ad1 cy ln σ) (zW shR ad2 cy lnR τ) H locs) (hl : lv_has ls 4 [(3, .int (nI (5 + 2 * k))), (2, .ref (ad2 0)), (1, .ref (ad1 0)), (0, .ref b)]) (hk : 5 + 2 * k ≤ 1029)
    (kk : 5 + 2 * k + 2 ≤ L → ∀ (σ' τ' : zSt) (H : Heap) (locs : List Loc) (ls : Array Slot), Rel ln tx tc cc mc io (k + 1) σ' τ' → LJ D (fun q => s.heap.size ≤ q) s.heap (zW shC ad1 cy ln σ') (zW shR ad2 cy lnR τ') H locs → lv_has ls 4 [(3, .int (nI (5 + 2 * (k + 1)))), (2, .ref (ad2 0)), (1, .ref (ad1 0)), (0, .ref b)] → W p l e room_1 s m #[Value.ref b] below meth c H locs 100 400000 (lw_Z below #[Value.ref b] s) (F0 m 68 ls [])) : W p l e room_1 s m #[Value.ref b] below meth c H locs 100 400000 (lw_Z below #[Value.ref b] s) (F0 m 68 ls []) := by
  have hC' := hC
  obtain ⟨X, hst, hX, hbl, ⟨hI1, hA1⟩, ⟨hI2, hA2⟩, hap, hL⟩ := hC
  have hx := X.1
  have hb := X.2.1
  have hbA : ¬ (fun q : Nat => s.heap.size ≤ q) b := Nat.not_le.mpr hbl
  refine lv_iload_n hx hb dL_law_68 rfl (lv_at hl 0 rfl) ?_
  refine lv_aload_n hx hb dL_law_69 rfl (lv_at hl 3 rfl) ?_
  refine va_slen hx hb hX hbl hbA J.2.2 dL_law_70 ?_
  refine lv_iconst (v := (2 : Int32)) hx hb dL_law_71 (by decide) ?_
  refine lv_isub hx hb dL_law_72 ?_
  refine lv_icmp_gt hx hb dL_law_73 rfl (fun _ => ?_) (fun h => ?_)
  · refine lv_iconst (v := (1 : Int32)) hx hb dL_law_347 (by decide) ?_
    refine va_forget (fun q hq => J.2.2.2.2 q hq) ?_
    refine W.widen (k := 600000) (n := 7302250) (by omega) (by omega) ?_
    exact lw_ret hx hb hr hlocks dL_law_348
  have hi : 5 + 2 * k + 2 ≤ L := by
    have h2 := iL2 ⟨L, by omega⟩
    have h3 : ¬ (Int32.ofNat L - 2).toInt < (nI (5 + 2 * k)).toInt := fun q => h (Int32.lt_iff_toInt_lt.mpr q)
    rw [nI_toInt (by omega)] at h3
    have h2 : (Int32.ofNat L - 2).toInt = (L : Int) - 2 := h2
    omega
  have fin : ∀ (σ' τ' : zSt) (H : Heap) (locs : List Loc), Rel ln tx tc cc mc io (k + 1) σ' τ' → LJ D (fun q => s.heap.size ≤ q) s.heap (zW shC ad1 cy ln σ') (zW shR ad2 cy lnR τ') H locs → W p l e room_1 s m #[Value.ref b] below meth c H locs 100 400000 (lw_Z below #[Value.ref b] s) (F0 m 341 ls []) := by
    intro σ' τ' H locs g1 g2
    refine lv_iinc (k := 0) (lv' := [(3, .int (nI (5 + 2 * (k + 1)))), (2, .ref (ad2 0)), (1, .ref (ad1 0)), (0, .ref b)]) (v := nI (5 + 2 * (k + 1))) hx hb dL_law_341 hl rfl ?_ (by decide) rfl (fun ls hl => ?_)
    · show nI (5 + 2 * k) + nI 2 = _
      rw [nI_add]
      congr 1
    · refine lv_goto hx hb dL_law_344 rfl ?_
      exact kk hi σ' τ' H locs ls g1 g2 hl
  refine lv_aload_n hx hb dL_law_76 rfl (lv_at hl 3 rfl) ?_
  refine lv_iload_n hx hb dL_law_77 rfl (lv_at hl 0 rfl) ?_
  refine va_sld hx hb hX hbl hbA J.2.2 (ix_ok (by omega) (by omega)) dL_law_78 ?_
  refine lv_bipush (v := (15 : Int32)) hx hb dL_law_79 (by decide) ?_
  refine lv_iand hx hb dL_law_81 ?_
  refine lv_topi (fun y _ => ?_)
  by_cases h0 : y = (0 : Int32)
  · rw [h0]
    refine lv_tableIn hx hb dL_law_82 (by decide) (by decide) (tgt := 140) (by rfl) (by decide) ?_
    exact lw_c0 hC' hN hi hR J hl fin
  by_cases h1 : y = (1 : Int32)
  · rw [h1]
    refine lv_tableIn hx hb dL_law_82 (by decide) (by decide) (tgt := 163) (by rfl) (by decide) ?_
    exact lw_c1 hC' hN hi hR J hl fin
  by_cases h2 : y = (2 : Int32)
  · rw [h2]
    refine lv_tableIn hx hb dL_law_82 (by decide) (by decide) (tgt := 176) (by rfl) (by decide) ?_
    exact lw_c2 hC' hN hi hR J hl fin
  by_cases h3 : y = (3 : Int32)
  · rw [h3]
    refine lv_tableIn hx hb dL_law_82 (by decide) (by decide) (tgt := 199) (by rfl) (by decide) ?_
    exact lw_c3 hC' hN hi hR J hl fin
  by_cases h4 : y = (4 : Int32)
  · rw [h4]
    refine lv_tableIn hx hb dL_law_82 (by decide) (by decide) (tgt := 212) (by rfl) (by decide) ?_
    exact lw_c4 hC' hN hi hR J hl fin
  by_cases h5 : y = (5 : Int32)
  · rw [h5]
    refine lv_tableIn hx hb dL_law_82 (by decide) (by decide) (tgt := 235) (by rfl) (by decide) ?_
    exact lw_c5 hC' hN hi hR J hl fin
  by_cases h6 : y = (6 : Int32)
  · rw [h6]
    refine lv_tableIn hx hb dL_law_82 (by decide) (by decide) (tgt := 258) (by rfl) (by decide) ?_
    exact lw_c6 hC' hN hi hR J hl fin
  by_cases h7 : y = (7 : Int32)
  · rw [h7]
    refine lv_tableIn hx hb dL_law_82 (by decide) (by decide) (tgt := 269) (by rfl) (by decide) ?_
    exact lw_c7 hC' hN hi hR J hl fin
  by_cases h8 : y = (8 : Int32)
  · rw [h8]
    refine lv_tableIn hx hb dL_law_82 (by decide) (by decide) (tgt := 282) (by rfl) (by decide) ?_
    exact lw_c8 hC' hN hi hR J hl fin
  by_cases h9 : y = (9 : Int32)
  · rw [h9]
    refine lv_tableIn hx hb dL_law_82 (by decide) (by decide) (tgt := 305) (by rfl) (by decide) ?_
    exact lw_c9 hC' hN hi hR J hl fin
  by_cases h10 : y = (10 : Int32)
  · rw [h10]
    refine lv_tableIn hx hb dL_law_82 (by decide) (by decide) (tgt := 318) (by rfl) (by decide) ?_
    exact lw_c10 hC' hN hi hR J hl fin
  refine lv_tableOut hx hb dL_law_82 (tgt := 341) (by have := lv_neT h0 (a := 0) (by decide); have := lv_neT h1 (a := 1) (by decide); have := lv_neT h2 (a := 2) (by decide); have := lv_neT h3 (a := 3) (by decide); have := lv_neT h4 (a := 4) (by decide); have := lv_neT h5 (a := 5) (by decide); have := lv_neT h6 (a := 6) (by decide); have := lv_neT h7 (a := 7) (by decide); have := lv_neT h8 (a := 8) (by decide); have := lv_neT h9 (a := 9) (by decide); have := lv_neT h10 (a := 10) (by decide); omega) (by decide) ?_
  exact fin σ τ H locs (Rel_up (by omega) hR) J
theorem law_loop (hr : meth.sig.returnType = ret) (hlocks : meth.locks = false) (hC : LC p s m c D cy b L xs ad1 ad2 ts) (hN : 2 ^ 31 ≤ N) : ∀ (n k : Nat) (σ τ : zSt) (H : Heap) (locs : List Loc) (ls : Array Slot), L ≤ 5 + 2 * k + n → 5 + 2 * k ≤ 1029 → Rel ln tx tc cc mc io k σ τ → LJ D (fun q => s.heap.size ≤ q) s.heap (zW shC ad1 cy ln σ) (zW shR ad2 cy lnR τ) H locs → lv_has ls 4 [(3, .int (nI (5 + 2 * k))), (2, .ref (ad2 0)), (1, .ref (ad1 0)), (0, .ref b)] → W p l e room_1 s m #[Value.ref b] below meth c H locs 100 400000 (lw_Z below #[Value.ref b] s) (F0 m 68 ls []) := by
  have hL := hC.2.2.2.2.2.2.2
  intro n
  induction n with
  | zero =>
    intro k σ τ H locs ls h1 h2 hR J hl
    exact law_step hr hlocks hC hN hR J hl h2 (fun hi => absurd hi (by omega))
  | succ n ih =>
    intro k σ τ H locs ls h1 h2 hR J hl
    exact law_step hr hlocks hC hN hR J hl h2 (fun hi σ' τ' H locs ls g1 g2 g3 => ih (k + 1) σ' τ' H locs ls (by omega) (by omega) g1 g2 g3)
end
