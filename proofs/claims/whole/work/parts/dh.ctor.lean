/-! NEW THINGS: the constructors of the smaller ones (written by ctor.py) -/
set_option maxHeartbeats 4000000 in
set_option maxRecDepth 100000 in
theorem vX0_init (l : Launch) (D : va_G) (cy : Nat → ClassId) (h0 n1 : Nat) (hn1 : n1 ≤ 4096) : nM l yX0_init cX0_init 2 1 1 4096 D cy [.ref h0, .int (nI n1)] [(h0, .inr (0, [.null, .int 0]))] (fun ad => [(h0, .inr (0, [.ref (ad 0), .int 0])), ((ad 0), zi cy n1)]) := by
  refine nM_of (by decide) (Nat.le_of_ble_eq_true rfl) (fun p e s m args below meth c ls A H locs X hC J hl => ?_)
  have X : nX p s m args c D cy cX0_init 2 RX0 := X
  have hC : nC meth := hC rfl
  have hx := X.1
  have hb := X.2.1
  have hl : lv_has ls 2 [(0, .ref h0), (1, .int (nI n1))] := hl
  refine lv_aload_n hx hb dX0_init_0 rfl (lv_at hl 0 rfl) ?_
  refine nr_obj X mv_methodLink_TinyCCode_1_javalangObject_init_V mv_instanceMethod_javalangObject_init_V mv_code_javalangObject_init_V hl.1 (Nat.le_of_ble_eq_true rfl) (Nat.le_of_ble_eq_true rfl) dX0_init_1 ?_
  refine lv_aload_n hx hb dX0_init_4 rfl (lv_at hl 0 rfl) ?_
  refine lv_iload_n hx hb dX0_init_5 rfl (lv_at hl 1 rfl) ?_
  refine nr_newi X J (N' := n1) rfl (by omega) mv_arrayClass_int (by show 0 + 1 ≤ 1; omega) (by show 0 + n1 ≤ 4096; omega) dX0_init_6 (fun q1 H J => ?_)
  refine W.widen (k := 1) (n := 4096) (by omega) (by omega) ?_
  have J : nJ D A s.heap [(h0, .inr (0, [.null, .int 0])), (q1, zi cy n1)] H locs := J
  refine nr_putF X hC J (T := TX0) (N := 2) (index := 7) (ci := 0) 0 0 rfl rfl in_X0 (by decide) mv_fieldLink_TinyCCode_7_TinyCCode_cells_I rfl tyX0 tyX0_ok nmX0 rfl rfl rfl (Nat.le_of_ble_eq_true rfl) dX0_init_8 (fun H locs J => ?_)
  have J : nJ D A s.heap [(h0, .inr (0, [.ref q1, .int 0])), (q1, zi cy n1)] H locs := J
  exact nr_ret X hC J (fun i => ([q1] : List Nat).getD i 0) [0, 1] (by decide) rfl (by omega) (by omega) dX0_init_11

set_option maxHeartbeats 4000000 in
set_option maxRecDepth 100000 in
theorem vX9_init (l : Launch) (D : va_G) (cy : Nat → ClassId) (h0 n1 : Nat) (hn1 : n1 ≤ 4096) : nM l yX9_init cX9_init 2 1 6 24576 D cy [.ref h0, .int (nI n1)] [(h0, .inr (9, [.null, .null, .null, .null, .null, .null, .int 0]))] (fun ad => [(h0, .inr (9, [.ref (ad 0), .ref (ad 1), .ref (ad 2), .ref (ad 3), .ref (ad 4), .ref (ad 5), .int 0])), ((ad 0), zi cy n1), ((ad 1), zi cy n1), ((ad 2), zi cy n1), ((ad 3), zi cy n1), ((ad 4), zi cy n1), ((ad 5), zi cy n1)]) := by
  refine nM_of (by decide) (Nat.le_of_ble_eq_true rfl) (fun p e s m args below meth c ls A H locs X hC J hl => ?_)
  have X : nX p s m args c D cy cX9_init 2 RX9 := X
  have hC : nC meth := hC rfl
  have hx := X.1
  have hb := X.2.1
  have hl : lv_has ls 2 [(0, .ref h0), (1, .int (nI n1))] := hl
  refine lv_aload_n hx hb dX9_init_0 rfl (lv_at hl 0 rfl) ?_
  refine nr_obj X mv_methodLink_TinyCTree_1_javalangObject_init_V mv_instanceMethod_javalangObject_init_V mv_code_javalangObject_init_V hl.1 (Nat.le_of_ble_eq_true rfl) (Nat.le_of_ble_eq_true rfl) dX9_init_1 ?_
  refine lv_aload_n hx hb dX9_init_4 rfl (lv_at hl 0 rfl) ?_
  refine lv_iload_n hx hb dX9_init_5 rfl (lv_at hl 1 rfl) ?_
  refine nr_newi X J (N' := n1) rfl (by omega) mv_arrayClass_int (by show 0 + 1 ≤ 6; omega) (by show 0 + n1 ≤ 24576; omega) dX9_init_6 (fun q1 H J => ?_)
  refine W.widen (k := 1) (n := 4096) (by omega) (by omega) ?_
  have J : nJ D A s.heap [(h0, .inr (9, [.null, .null, .null, .null, .null, .null, .int 0])), (q1, zi cy n1)] H locs := J
  refine nr_putF X hC J (T := TX9) (N := 7) (index := 7) (ci := 9) 0 0 rfl rfl in_X9 (by decide) mv_fieldLink_TinyCTree_7_TinyCTree_kinds_I rfl tyX9 tyX9_ok nmX9 rfl rfl rfl (Nat.le_of_ble_eq_true rfl) dX9_init_8 (fun H locs J => ?_)
  have J : nJ D A s.heap [(h0, .inr (9, [.ref q1, .null, .null, .null, .null, .null, .int 0])), (q1, zi cy n1)] H locs := J
  refine lv_aload_n hx hb dX9_init_11 rfl (lv_at hl 0 rfl) ?_
  refine lv_iload_n hx hb dX9_init_12 rfl (lv_at hl 1 rfl) ?_
  refine nr_newi X J (N' := n1) rfl (by omega) mv_arrayClass_int (by show 1 + 1 ≤ 6; omega) (by show 4096 + n1 ≤ 24576; omega) dX9_init_13 (fun q2 H J => ?_)
  refine W.widen (k := 2) (n := 8192) (by omega) (by omega) ?_
  have J : nJ D A s.heap [(h0, .inr (9, [.ref q1, .null, .null, .null, .null, .null, .int 0])), (q1, zi cy n1), (q2, zi cy n1)] H locs := J
  refine nr_putF X hC J (T := TX9) (N := 7) (index := 13) (ci := 9) 0 1 rfl rfl in_X9 (by decide) mv_fieldLink_TinyCTree_13_TinyCTree_as_I rfl tyX9 tyX9_ok nmX9 rfl rfl rfl (Nat.le_of_ble_eq_true rfl) dX9_init_15 (fun H locs J => ?_)
  have J : nJ D A s.heap [(h0, .inr (9, [.ref q1, .ref q2, .null, .null, .null, .null, .int 0])), (q1, zi cy n1), (q2, zi cy n1)] H locs := J
  refine lv_aload_n hx hb dX9_init_18 rfl (lv_at hl 0 rfl) ?_
  refine lv_iload_n hx hb dX9_init_19 rfl (lv_at hl 1 rfl) ?_
  refine nr_newi X J (N' := n1) rfl (by omega) mv_arrayClass_int (by show 2 + 1 ≤ 6; omega) (by show 8192 + n1 ≤ 24576; omega) dX9_init_20 (fun q3 H J => ?_)
  refine W.widen (k := 3) (n := 12288) (by omega) (by omega) ?_
  have J : nJ D A s.heap [(h0, .inr (9, [.ref q1, .ref q2, .null, .null, .null, .null, .int 0])), (q1, zi cy n1), (q2, zi cy n1), (q3, zi cy n1)] H locs := J
  refine nr_putF X hC J (T := TX9) (N := 7) (index := 16) (ci := 9) 0 2 rfl rfl in_X9 (by decide) mv_fieldLink_TinyCTree_16_TinyCTree_bs_I rfl tyX9 tyX9_ok nmX9 rfl rfl rfl (Nat.le_of_ble_eq_true rfl) dX9_init_22 (fun H locs J => ?_)
  have J : nJ D A s.heap [(h0, .inr (9, [.ref q1, .ref q2, .ref q3, .null, .null, .null, .int 0])), (q1, zi cy n1), (q2, zi cy n1), (q3, zi cy n1)] H locs := J
  refine lv_aload_n hx hb dX9_init_25 rfl (lv_at hl 0 rfl) ?_
  refine lv_iload_n hx hb dX9_init_26 rfl (lv_at hl 1 rfl) ?_
  refine nr_newi X J (N' := n1) rfl (by omega) mv_arrayClass_int (by show 3 + 1 ≤ 6; omega) (by show 12288 + n1 ≤ 24576; omega) dX9_init_27 (fun q4 H J => ?_)
  refine W.widen (k := 4) (n := 16384) (by omega) (by omega) ?_
  have J : nJ D A s.heap [(h0, .inr (9, [.ref q1, .ref q2, .ref q3, .null, .null, .null, .int 0])), (q1, zi cy n1), (q2, zi cy n1), (q3, zi cy n1), (q4, zi cy n1)] H locs := J
  refine nr_putF X hC J (T := TX9) (N := 7) (index := 19) (ci := 9) 0 3 rfl rfl in_X9 (by decide) mv_fieldLink_TinyCTree_19_TinyCTree_cs_I rfl tyX9 tyX9_ok nmX9 rfl rfl rfl (Nat.le_of_ble_eq_true rfl) dX9_init_29 (fun H locs J => ?_)
  have J : nJ D A s.heap [(h0, .inr (9, [.ref q1, .ref q2, .ref q3, .ref q4, .null, .null, .int 0])), (q1, zi cy n1), (q2, zi cy n1), (q3, zi cy n1), (q4, zi cy n1)] H locs := J
  refine lv_aload_n hx hb dX9_init_32 rfl (lv_at hl 0 rfl) ?_
  refine lv_iload_n hx hb dX9_init_33 rfl (lv_at hl 1 rfl) ?_
  refine nr_newi X J (N' := n1) rfl (by omega) mv_arrayClass_int (by show 4 + 1 ≤ 6; omega) (by show 16384 + n1 ≤ 24576; omega) dX9_init_34 (fun q5 H J => ?_)
  refine W.widen (k := 5) (n := 20480) (by omega) (by omega) ?_
  have J : nJ D A s.heap [(h0, .inr (9, [.ref q1, .ref q2, .ref q3, .ref q4, .null, .null, .int 0])), (q1, zi cy n1), (q2, zi cy n1), (q3, zi cy n1), (q4, zi cy n1), (q5, zi cy n1)] H locs := J
  refine nr_putF X hC J (T := TX9) (N := 7) (index := 22) (ci := 9) 0 4 rfl rfl in_X9 (by decide) mv_fieldLink_TinyCTree_22_TinyCTree_ds_I rfl tyX9 tyX9_ok nmX9 rfl rfl rfl (Nat.le_of_ble_eq_true rfl) dX9_init_36 (fun H locs J => ?_)
  have J : nJ D A s.heap [(h0, .inr (9, [.ref q1, .ref q2, .ref q3, .ref q4, .ref q5, .null, .int 0])), (q1, zi cy n1), (q2, zi cy n1), (q3, zi cy n1), (q4, zi cy n1), (q5, zi cy n1)] H locs := J
  refine lv_aload_n hx hb dX9_init_39 rfl (lv_at hl 0 rfl) ?_
  refine lv_iload_n hx hb dX9_init_40 rfl (lv_at hl 1 rfl) ?_
  refine nr_newi X J (N' := n1) rfl (by omega) mv_arrayClass_int (by show 5 + 1 ≤ 6; omega) (by show 20480 + n1 ≤ 24576; omega) dX9_init_41 (fun q6 H J => ?_)
  refine W.widen (k := 6) (n := 24576) (by omega) (by omega) ?_
  have J : nJ D A s.heap [(h0, .inr (9, [.ref q1, .ref q2, .ref q3, .ref q4, .ref q5, .null, .int 0])), (q1, zi cy n1), (q2, zi cy n1), (q3, zi cy n1), (q4, zi cy n1), (q5, zi cy n1), (q6, zi cy n1)] H locs := J
  refine nr_putF X hC J (T := TX9) (N := 7) (index := 25) (ci := 9) 0 5 rfl rfl in_X9 (by decide) mv_fieldLink_TinyCTree_25_TinyCTree_nexts_I rfl tyX9 tyX9_ok nmX9 rfl rfl rfl (Nat.le_of_ble_eq_true rfl) dX9_init_43 (fun H locs J => ?_)
  have J : nJ D A s.heap [(h0, .inr (9, [.ref q1, .ref q2, .ref q3, .ref q4, .ref q5, .ref q6, .int 0])), (q1, zi cy n1), (q2, zi cy n1), (q3, zi cy n1), (q4, zi cy n1), (q5, zi cy n1), (q6, zi cy n1)] H locs := J
  exact nr_ret X hC J (fun i => ([q1, q2, q3, q4, q5, q6] : List Nat).getD i 0) [0, 1, 2, 3, 4, 5, 6] (by decide) rfl (by omega) (by omega) dX9_init_46

set_option maxHeartbeats 4000000 in
set_option maxRecDepth 100000 in
theorem vX4_init (l : Launch) (D : va_G) (cy : Nat → ClassId) (h0 n1 : Nat) (hn1 : n1 ≤ 4096) : nM l yX4_init cX4_init 2 1 5 20480 D cy [.ref h0, .int (nI n1)] [(h0, .inr (4, [.null, .null, .null, .null, .null, .int 0]))] (fun ad => [(h0, .inr (4, [.ref (ad 0), .ref (ad 1), .ref (ad 2), .ref (ad 3), .ref (ad 4), .int 0])), ((ad 0), zl cy n1), ((ad 1), zi cy n1), ((ad 2), zi cy n1), ((ad 3), zi cy n1), ((ad 4), zi cy n1)]) := by
  refine nM_of (by decide) (Nat.le_of_ble_eq_true rfl) (fun p e s m args below meth c ls A H locs X hC J hl => ?_)
  have X : nX p s m args c D cy cX4_init 2 RX4 := X
  have hC : nC meth := hC rfl
  have hx := X.1
  have hb := X.2.1
  have hl : lv_has ls 2 [(0, .ref h0), (1, .int (nI n1))] := hl
  refine lv_aload_n hx hb dX4_init_0 rfl (lv_at hl 0 rfl) ?_
  refine nr_obj X mv_methodLink_TinyCNames_1_javalangObject_init_V mv_instanceMethod_javalangObject_init_V mv_code_javalangObject_init_V hl.1 (Nat.le_of_ble_eq_true rfl) (Nat.le_of_ble_eq_true rfl) dX4_init_1 ?_
  refine lv_aload_n hx hb dX4_init_4 rfl (lv_at hl 0 rfl) ?_
  refine lv_iload_n hx hb dX4_init_5 rfl (lv_at hl 1 rfl) ?_
  refine nr_newl X J (N' := n1) rfl (by omega) mv_arrayClass_long (by show 0 + 1 ≤ 5; omega) (by show 0 + n1 ≤ 20480; omega) dX4_init_6 (fun q1 H J => ?_)
  refine W.widen (k := 1) (n := 4096) (by omega) (by omega) ?_
  have J : nJ D A s.heap [(h0, .inr (4, [.null, .null, .null, .null, .null, .int 0])), (q1, zl cy n1)] H locs := J
  refine nr_putF X hC J (T := TX4) (N := 6) (index := 7) (ci := 4) 0 0 rfl rfl in_X4 (by decide) mv_fieldLink_TinyCNames_7_TinyCNames_words_J rfl tyX4 tyX4_ok nmX4 rfl rfl rfl (Nat.le_of_ble_eq_true rfl) dX4_init_8 (fun H locs J => ?_)
  have J : nJ D A s.heap [(h0, .inr (4, [.ref q1, .null, .null, .null, .null, .int 0])), (q1, zl cy n1)] H locs := J
  refine lv_aload_n hx hb dX4_init_11 rfl (lv_at hl 0 rfl) ?_
  refine lv_iload_n hx hb dX4_init_12 rfl (lv_at hl 1 rfl) ?_
  refine nr_newi X J (N' := n1) rfl (by omega) mv_arrayClass_int (by show 1 + 1 ≤ 5; omega) (by show 4096 + n1 ≤ 20480; omega) dX4_init_13 (fun q2 H J => ?_)
  refine W.widen (k := 2) (n := 8192) (by omega) (by omega) ?_
  have J : nJ D A s.heap [(h0, .inr (4, [.ref q1, .null, .null, .null, .null, .int 0])), (q1, zl cy n1), (q2, zi cy n1)] H locs := J
  refine nr_putF X hC J (T := TX4) (N := 6) (index := 13) (ci := 4) 0 1 rfl rfl in_X4 (by decide) mv_fieldLink_TinyCNames_13_TinyCNames_sorts_I rfl tyX4 tyX4_ok nmX4 rfl rfl rfl (Nat.le_of_ble_eq_true rfl) dX4_init_15 (fun H locs J => ?_)
  have J : nJ D A s.heap [(h0, .inr (4, [.ref q1, .ref q2, .null, .null, .null, .int 0])), (q1, zl cy n1), (q2, zi cy n1)] H locs := J
  refine lv_aload_n hx hb dX4_init_18 rfl (lv_at hl 0 rfl) ?_
  refine lv_iload_n hx hb dX4_init_19 rfl (lv_at hl 1 rfl) ?_
  refine nr_newi X J (N' := n1) rfl (by omega) mv_arrayClass_int (by show 2 + 1 ≤ 5; omega) (by show 8192 + n1 ≤ 20480; omega) dX4_init_20 (fun q3 H J => ?_)
  refine W.widen (k := 3) (n := 12288) (by omega) (by omega) ?_
  have J : nJ D A s.heap [(h0, .inr (4, [.ref q1, .ref q2, .null, .null, .null, .int 0])), (q1, zl cy n1), (q2, zi cy n1), (q3, zi cy n1)] H locs := J
  refine nr_putF X hC J (T := TX4) (N := 6) (index := 17) (ci := 4) 0 2 rfl rfl in_X4 (by decide) mv_fieldLink_TinyCNames_17_TinyCNames_places_I rfl tyX4 tyX4_ok nmX4 rfl rfl rfl (Nat.le_of_ble_eq_true rfl) dX4_init_22 (fun H locs J => ?_)
  have J : nJ D A s.heap [(h0, .inr (4, [.ref q1, .ref q2, .ref q3, .null, .null, .int 0])), (q1, zl cy n1), (q2, zi cy n1), (q3, zi cy n1)] H locs := J
  refine lv_aload_n hx hb dX4_init_25 rfl (lv_at hl 0 rfl) ?_
  refine lv_iload_n hx hb dX4_init_26 rfl (lv_at hl 1 rfl) ?_
  refine nr_newi X J (N' := n1) rfl (by omega) mv_arrayClass_int (by show 3 + 1 ≤ 5; omega) (by show 12288 + n1 ≤ 20480; omega) dX4_init_27 (fun q4 H J => ?_)
  refine W.widen (k := 4) (n := 16384) (by omega) (by omega) ?_
  have J : nJ D A s.heap [(h0, .inr (4, [.ref q1, .ref q2, .ref q3, .null, .null, .int 0])), (q1, zl cy n1), (q2, zi cy n1), (q3, zi cy n1), (q4, zi cy n1)] H locs := J
  refine nr_putF X hC J (T := TX4) (N := 6) (index := 20) (ci := 4) 0 3 rfl rfl in_X4 (by decide) mv_fieldLink_TinyCNames_20_TinyCNames_counts_I rfl tyX4 tyX4_ok nmX4 rfl rfl rfl (Nat.le_of_ble_eq_true rfl) dX4_init_29 (fun H locs J => ?_)
  have J : nJ D A s.heap [(h0, .inr (4, [.ref q1, .ref q2, .ref q3, .ref q4, .null, .int 0])), (q1, zl cy n1), (q2, zi cy n1), (q3, zi cy n1), (q4, zi cy n1)] H locs := J
  refine lv_aload_n hx hb dX4_init_32 rfl (lv_at hl 0 rfl) ?_
  refine lv_iload_n hx hb dX4_init_33 rfl (lv_at hl 1 rfl) ?_
  refine nr_newi X J (N' := n1) rfl (by omega) mv_arrayClass_int (by show 4 + 1 ≤ 5; omega) (by show 16384 + n1 ≤ 20480; omega) dX4_init_34 (fun q5 H J => ?_)
  refine W.widen (k := 5) (n := 20480) (by omega) (by omega) ?_
  have J : nJ D A s.heap [(h0, .inr (4, [.ref q1, .ref q2, .ref q3, .ref q4, .null, .int 0])), (q1, zl cy n1), (q2, zi cy n1), (q3, zi cy n1), (q4, zi cy n1), (q5, zi cy n1)] H locs := J
  refine nr_putF X hC J (T := TX4) (N := 6) (index := 23) (ci := 4) 0 4 rfl rfl in_X4 (by decide) mv_fieldLink_TinyCNames_23_TinyCNames_nodes_I rfl tyX4 tyX4_ok nmX4 rfl rfl rfl (Nat.le_of_ble_eq_true rfl) dX4_init_36 (fun H locs J => ?_)
  have J : nJ D A s.heap [(h0, .inr (4, [.ref q1, .ref q2, .ref q3, .ref q4, .ref q5, .int 0])), (q1, zl cy n1), (q2, zi cy n1), (q3, zi cy n1), (q4, zi cy n1), (q5, zi cy n1)] H locs := J
  exact nr_ret X hC J (fun i => ([q1, q2, q3, q4, q5] : List Nat).getD i 0) [0, 1, 2, 3, 4, 5] (by decide) rfl (by omega) (by omega) dX4_init_39

set_option maxHeartbeats 4000000 in
set_option maxRecDepth 100000 in
theorem vX7_init (l : Launch) (D : va_G) (cy : Nat → ClassId) (h0 n1 : Nat) (hn1 : n1 ≤ 4096) : nM l yX7_init cX7_init 2 1 1 4096 D cy [.ref h0, .int (nI n1)] [(h0, .inr (7, [.null, .int 0, .int 0, .int 0, .int 0, .long 0, .long 0, .int 0]))] (fun ad => [(h0, .inr (7, [.ref (ad 0), .int 0, .int 0, .int 0, .int 0, .long 0, .long 0, .int 0])), ((ad 0), zi cy n1)]) := by
  refine nM_of (by decide) (Nat.le_of_ble_eq_true rfl) (fun p e s m args below meth c ls A H locs X hC J hl => ?_)
  have X : nX p s m args c D cy cX7_init 2 RX7 := X
  have hC : nC meth := hC rfl
  have hx := X.1
  have hb := X.2.1
  have hl : lv_has ls 2 [(0, .ref h0), (1, .int (nI n1))] := hl
  refine lv_aload_n hx hb dX7_init_0 rfl (lv_at hl 0 rfl) ?_
  refine nr_obj X mv_methodLink_TinyCScan_3_javalangObject_init_V mv_instanceMethod_javalangObject_init_V mv_code_javalangObject_init_V hl.1 (Nat.le_of_ble_eq_true rfl) (Nat.le_of_ble_eq_true rfl) dX7_init_1 ?_
  refine lv_aload_n hx hb dX7_init_4 rfl (lv_at hl 0 rfl) ?_
  refine lv_iload_n hx hb dX7_init_5 rfl (lv_at hl 1 rfl) ?_
  refine nr_newi X J (N' := n1) rfl (by omega) mv_arrayClass_int (by show 0 + 1 ≤ 1; omega) (by show 0 + n1 ≤ 4096; omega) dX7_init_6 (fun q1 H J => ?_)
  refine W.widen (k := 1) (n := 4096) (by omega) (by omega) ?_
  have J : nJ D A s.heap [(h0, .inr (7, [.null, .int 0, .int 0, .int 0, .int 0, .long 0, .long 0, .int 0])), (q1, zi cy n1)] H locs := J
  refine nr_putF X hC J (T := TX7) (N := 8) (index := 9) (ci := 7) 0 0 rfl rfl in_X7 (by decide) mv_fieldLink_TinyCScan_9_TinyCScan_text_I rfl tyX7 tyX7_ok nmX7 rfl rfl rfl (Nat.le_of_ble_eq_true rfl) dX7_init_8 (fun H locs J => ?_)
  have J : nJ D A s.heap [(h0, .inr (7, [.ref q1, .int 0, .int 0, .int 0, .int 0, .long 0, .long 0, .int 0])), (q1, zi cy n1)] H locs := J
  exact nr_ret X hC J (fun i => ([q1] : List Nat).getD i 0) [0, 1] (by decide) rfl (by omega) (by omega) dX7_init_11

set_option maxHeartbeats 4000000 in
set_option maxRecDepth 100000 in
theorem vX8_init (l : Launch) (D : va_G) (cy : Nat → ClassId) (h0 n1 : Nat) (hn1 : n1 ≤ 4096) : nM l yX8_init cX8_init 2 1 2 8192 D cy [.ref h0, .int (nI n1)] [(h0, .inr (8, [.null, .null, .int 0, .int 0, .int 0]))] (fun ad => [(h0, .inr (8, [.ref (ad 0), .ref (ad 1), .int 0, .int 0, .int 0])), ((ad 0), zi cy n1), ((ad 1), zi cy n1)]) := by
  refine nM_of (by decide) (Nat.le_of_ble_eq_true rfl) (fun p e s m args below meth c ls A H locs X hC J hl => ?_)
  have X : nX p s m args c D cy cX8_init 2 RX8 := X
  have hC : nC meth := hC rfl
  have hx := X.1
  have hb := X.2.1
  have hl : lv_has ls 2 [(0, .ref h0), (1, .int (nI n1))] := hl
  refine lv_aload_n hx hb dX8_init_0 rfl (lv_at hl 0 rfl) ?_
  refine nr_obj X mv_methodLink_TinyCTape_1_javalangObject_init_V mv_instanceMethod_javalangObject_init_V mv_code_javalangObject_init_V hl.1 (Nat.le_of_ble_eq_true rfl) (Nat.le_of_ble_eq_true rfl) dX8_init_1 ?_
  refine lv_aload_n hx hb dX8_init_4 rfl (lv_at hl 0 rfl) ?_
  refine lv_iload_n hx hb dX8_init_5 rfl (lv_at hl 1 rfl) ?_
  refine nr_newi X J (N' := n1) rfl (by omega) mv_arrayClass_int (by show 0 + 1 ≤ 2; omega) (by show 0 + n1 ≤ 8192; omega) dX8_init_6 (fun q1 H J => ?_)
  refine W.widen (k := 1) (n := 4096) (by omega) (by omega) ?_
  have J : nJ D A s.heap [(h0, .inr (8, [.null, .null, .int 0, .int 0, .int 0])), (q1, zi cy n1)] H locs := J
  refine nr_putF X hC J (T := TX8) (N := 5) (index := 7) (ci := 8) 0 0 rfl rfl in_X8 (by decide) mv_fieldLink_TinyCTape_7_TinyCTape_inputs_I rfl tyX8 tyX8_ok nmX8 rfl rfl rfl (Nat.le_of_ble_eq_true rfl) dX8_init_8 (fun H locs J => ?_)
  have J : nJ D A s.heap [(h0, .inr (8, [.ref q1, .null, .int 0, .int 0, .int 0])), (q1, zi cy n1)] H locs := J
  refine lv_aload_n hx hb dX8_init_11 rfl (lv_at hl 0 rfl) ?_
  refine lv_iload_n hx hb dX8_init_12 rfl (lv_at hl 1 rfl) ?_
  refine nr_newi X J (N' := n1) rfl (by omega) mv_arrayClass_int (by show 1 + 1 ≤ 2; omega) (by show 4096 + n1 ≤ 8192; omega) dX8_init_13 (fun q2 H J => ?_)
  refine W.widen (k := 2) (n := 8192) (by omega) (by omega) ?_
  have J : nJ D A s.heap [(h0, .inr (8, [.ref q1, .null, .int 0, .int 0, .int 0])), (q1, zi cy n1), (q2, zi cy n1)] H locs := J
  refine nr_putF X hC J (T := TX8) (N := 5) (index := 13) (ci := 8) 0 1 rfl rfl in_X8 (by decide) mv_fieldLink_TinyCTape_13_TinyCTape_outputs_I rfl tyX8 tyX8_ok nmX8 rfl rfl rfl (Nat.le_of_ble_eq_true rfl) dX8_init_15 (fun H locs J => ?_)
  have J : nJ D A s.heap [(h0, .inr (8, [.ref q1, .ref q2, .int 0, .int 0, .int 0])), (q1, zi cy n1), (q2, zi cy n1)] H locs := J
  exact nr_ret X hC J (fun i => ([q1, q2] : List Nat).getD i 0) [0, 1, 2] (by decide) rfl (by omega) (by omega) dX8_init_18

set_option maxHeartbeats 4000000 in
set_option maxRecDepth 100000 in
theorem vX3_init (l : Launch) (D : va_G) (cy : Nat → ClassId) (h0 n1 a2 : Nat) (hn1 : n1 ≤ 4096) : nM l yX3_init cX3_init 3 1 1 4096 D cy [.ref h0, .int (nI n1), .ref a2] [(h0, .inr (3, [.null, .null, .null, .int 0, .int 0, .int 0, .int 0, .int 0]))] (fun ad => [(h0, .inr (3, [.ref (ad 0), .ref a2, .null, .int 0, .int 0, .int 0, .int 0, .int 0])), ((ad 0), zi cy n1)]) := by
  refine nM_of (by decide) (Nat.le_of_ble_eq_true rfl) (fun p e s m args below meth c ls A H locs X hC J hl => ?_)
  have X : nX p s m args c D cy cX3_init 3 RX3 := X
  have hC : nC meth := hC rfl
  have hx := X.1
  have hb := X.2.1
  have hl : lv_has ls 3 [(0, .ref h0), (1, .int (nI n1)), (2, .ref a2)] := hl
  refine lv_aload_n hx hb dX3_init_0 rfl (lv_at hl 0 rfl) ?_
  refine nr_obj X mv_methodLink_TinyCMachine_3_javalangObject_init_V mv_instanceMethod_javalangObject_init_V mv_code_javalangObject_init_V hl.1 (Nat.le_of_ble_eq_true rfl) (Nat.le_of_ble_eq_true rfl) dX3_init_1 ?_
  refine lv_aload_n hx hb dX3_init_4 rfl (lv_at hl 0 rfl) ?_
  refine lv_iload_n hx hb dX3_init_5 rfl (lv_at hl 1 rfl) ?_
  refine nr_newi X J (N' := n1) rfl (by omega) mv_arrayClass_int (by show 0 + 1 ≤ 1; omega) (by show 0 + n1 ≤ 4096; omega) dX3_init_6 (fun q1 H J => ?_)
  refine W.widen (k := 1) (n := 4096) (by omega) (by omega) ?_
  have J : nJ D A s.heap [(h0, .inr (3, [.null, .null, .null, .int 0, .int 0, .int 0, .int 0, .int 0])), (q1, zi cy n1)] H locs := J
  refine nr_putF X hC J (T := TX3) (N := 8) (index := 9) (ci := 3) 0 0 rfl rfl in_X3 (by decide) mv_fieldLink_TinyCMachine_9_TinyCMachine_memory_I rfl tyX3 tyX3_ok nmX3 rfl rfl rfl (Nat.le_of_ble_eq_true rfl) dX3_init_8 (fun H locs J => ?_)
  have J : nJ D A s.heap [(h0, .inr (3, [.ref q1, .null, .null, .int 0, .int 0, .int 0, .int 0, .int 0])), (q1, zi cy n1)] H locs := J
  refine lv_aload_n hx hb dX3_init_11 rfl (lv_at hl 0 rfl) ?_
  refine lv_aload_n hx hb dX3_init_12 rfl (lv_at hl 2 rfl) ?_
  refine nr_putF X hC J (T := TX3) (N := 8) (index := 15) (ci := 3) 0 1 rfl rfl in_X3 (by decide) mv_fieldLink_TinyCMachine_15_TinyCMachine_tape_LTinyCTape rfl tyX3 tyX3_ok nmX3 rfl rfl rfl (Nat.le_of_ble_eq_true rfl) dX3_init_13 (fun H locs J => ?_)
  have J : nJ D A s.heap [(h0, .inr (3, [.ref q1, .ref a2, .null, .int 0, .int 0, .int 0, .int 0, .int 0])), (q1, zi cy n1)] H locs := J
  exact nr_ret X hC J (fun i => ([q1] : List Nat).getD i 0) [0, 1] (by decide) rfl (by omega) (by omega) dX3_init_16

set_option maxHeartbeats 4000000 in
set_option maxRecDepth 100000 in
theorem vX10_init (l : Launch) (D : va_G) (cy : Nat → ClassId) (h0 n1 a2 : Nat) (hn1 : n1 ≤ 4096) : nM l yX10_init cX10_init 3 1 6 24640 D cy [.ref h0, .int (nI n1), .ref a2] [(h0, .inr (10, [.int 0, .null, .null, .null, .null, .null, .null, .null, .null, .int 0, .int 0, .int 0, .int 0, .int 0, .int 0, .int 0]))] (fun ad => [(h0, .inr (10, [.int (nI n1), .ref a2, .ref (ad 0), .ref (ad 1), .ref (ad 2), .ref (ad 3), .ref (ad 4), .ref (ad 5), .null, .int 0, .int 0, .int 0, .int 0, .int 0, .int 0, .int 0])), ((ad 0), zi cy (n1 + 16)), ((ad 1), zi cy (n1 + 16)), ((ad 2), zi cy (n1 + 16)), ((ad 3), zi cy n1), ((ad 4), zi cy n1), ((ad 5), zi cy (n1 + 16))]) := by
  refine nM_of (by decide) (Nat.le_of_ble_eq_true rfl) (fun p e s m args below meth c ls A H locs X hC J hl => ?_)
  have X : nX p s m args c D cy cX10_init 3 RX10 := X
  have hC : nC meth := hC rfl
  have hx := X.1
  have hb := X.2.1
  have hl : lv_has ls 3 [(0, .ref h0), (1, .int (nI n1)), (2, .ref a2)] := hl
  refine lv_aload_n hx hb dX10_init_0 rfl (lv_at hl 0 rfl) ?_
  refine nr_obj X mv_methodLink_TinyCWalker_3_javalangObject_init_V mv_instanceMethod_javalangObject_init_V mv_code_javalangObject_init_V hl.1 (Nat.le_of_ble_eq_true rfl) (Nat.le_of_ble_eq_true rfl) dX10_init_1 ?_
  refine lv_aload_n hx hb dX10_init_4 rfl (lv_at hl 0 rfl) ?_
  refine lv_iload_n hx hb dX10_init_5 rfl (lv_at hl 1 rfl) ?_
  refine nr_putF X hC J (T := TX10) (N := 16) (index := 9) (ci := 10) 0 0 rfl rfl in_X10 (by decide) mv_fieldLink_TinyCWalker_9_TinyCWalker_cells_I rfl tyX10 tyX10_ok nmX10 rfl rfl rfl (Nat.le_of_ble_eq_true rfl) dX10_init_6 (fun H locs J => ?_)
  have J : nJ D A s.heap [(h0, .inr (10, [.int (nI n1), .null, .null, .null, .null, .null, .null, .null, .null, .int 0, .int 0, .int 0, .int 0, .int 0, .int 0, .int 0]))] H locs := J
  refine lv_aload_n hx hb dX10_init_9 rfl (lv_at hl 0 rfl) ?_
  refine lv_aload_n hx hb dX10_init_10 rfl (lv_at hl 2 rfl) ?_
  refine nr_putF X hC J (T := TX10) (N := 16) (index := 15) (ci := 10) 0 1 rfl rfl in_X10 (by decide) mv_fieldLink_TinyCWalker_15_TinyCWalker_tape_LTinyCTape rfl tyX10 tyX10_ok nmX10 rfl rfl rfl (Nat.le_of_ble_eq_true rfl) dX10_init_11 (fun H locs J => ?_)
  have J : nJ D A s.heap [(h0, .inr (10, [.int (nI n1), .ref a2, .null, .null, .null, .null, .null, .null, .null, .int 0, .int 0, .int 0, .int 0, .int 0, .int 0, .int 0]))] H locs := J
  refine lv_aload_n hx hb dX10_init_14 rfl (lv_at hl 0 rfl) ?_
  refine lv_iload_n hx hb dX10_init_15 rfl (lv_at hl 1 rfl) ?_
  refine lv_bipush (v := (16 : Int32)) hx hb dX10_init_16 (by decide) ?_
  refine lv_iadd hx hb dX10_init_18 ?_
  refine nr_newi X J (N' := (n1 + 16)) (show ((nI n1) + (16 : Int32)) = nI (n1 + 16) from nI_add _ 16) (by omega) mv_arrayClass_int (by show 0 + 1 ≤ 6; omega) (by show 0 + (n1 + 16) ≤ 24640; omega) dX10_init_19 (fun q1 H J => ?_)
  refine W.widen (k := 1) (n := 4112) (by omega) (by omega) ?_
  have J : nJ D A s.heap [(h0, .inr (10, [.int (nI n1), .ref a2, .null, .null, .null, .null, .null, .null, .null, .int 0, .int 0, .int 0, .int 0, .int 0, .int 0, .int 0])), (q1, zi cy (n1 + 16))] H locs := J
  refine nr_putF X hC J (T := TX10) (N := 16) (index := 19) (ci := 10) 0 2 rfl rfl in_X10 (by decide) mv_fieldLink_TinyCWalker_19_TinyCWalker_values_I rfl tyX10 tyX10_ok nmX10 rfl rfl rfl (Nat.le_of_ble_eq_true rfl) dX10_init_21 (fun H locs J => ?_)
  have J : nJ D A s.heap [(h0, .inr (10, [.int (nI n1), .ref a2, .ref q1, .null, .null, .null, .null, .null, .null, .int 0, .int 0, .int 0, .int 0, .int 0, .int 0, .int 0])), (q1, zi cy (n1 + 16))] H locs := J
  refine lv_aload_n hx hb dX10_init_24 rfl (lv_at hl 0 rfl) ?_
  refine lv_iload_n hx hb dX10_init_25 rfl (lv_at hl 1 rfl) ?_
  refine lv_bipush (v := (16 : Int32)) hx hb dX10_init_26 (by decide) ?_
  refine lv_iadd hx hb dX10_init_28 ?_
  refine nr_newi X J (N' := (n1 + 16)) (show ((nI n1) + (16 : Int32)) = nI (n1 + 16) from nI_add _ 16) (by omega) mv_arrayClass_int (by show 1 + 1 ≤ 6; omega) (by show 4112 + (n1 + 16) ≤ 24640; omega) dX10_init_29 (fun q2 H J => ?_)
  refine W.widen (k := 2) (n := 8224) (by omega) (by omega) ?_
  have J : nJ D A s.heap [(h0, .inr (10, [.int (nI n1), .ref a2, .ref q1, .null, .null, .null, .null, .null, .null, .int 0, .int 0, .int 0, .int 0, .int 0, .int 0, .int 0])), (q1, zi cy (n1 + 16)), (q2, zi cy (n1 + 16))] H locs := J
  refine nr_putF X hC J (T := TX10) (N := 16) (index := 23) (ci := 10) 0 3 rfl rfl in_X10 (by decide) mv_fieldLink_TinyCWalker_23_TinyCWalker_whats_I rfl tyX10 tyX10_ok nmX10 rfl rfl rfl (Nat.le_of_ble_eq_true rfl) dX10_init_31 (fun H locs J => ?_)
  have J : nJ D A s.heap [(h0, .inr (10, [.int (nI n1), .ref a2, .ref q1, .ref q2, .null, .null, .null, .null, .null, .int 0, .int 0, .int 0, .int 0, .int 0, .int 0, .int 0])), (q1, zi cy (n1 + 16)), (q2, zi cy (n1 + 16))] H locs := J
  refine lv_aload_n hx hb dX10_init_34 rfl (lv_at hl 0 rfl) ?_
  refine lv_iload_n hx hb dX10_init_35 rfl (lv_at hl 1 rfl) ?_
  refine lv_bipush (v := (16 : Int32)) hx hb dX10_init_36 (by decide) ?_
  refine lv_iadd hx hb dX10_init_38 ?_
  refine nr_newi X J (N' := (n1 + 16)) (show ((nI n1) + (16 : Int32)) = nI (n1 + 16) from nI_add _ 16) (by omega) mv_arrayClass_int (by show 2 + 1 ≤ 6; omega) (by show 8224 + (n1 + 16) ≤ 24640; omega) dX10_init_39 (fun q3 H J => ?_)
  refine W.widen (k := 3) (n := 12336) (by omega) (by omega) ?_
  have J : nJ D A s.heap [(h0, .inr (10, [.int (nI n1), .ref a2, .ref q1, .ref q2, .null, .null, .null, .null, .null, .int 0, .int 0, .int 0, .int 0, .int 0, .int 0, .int 0])), (q1, zi cy (n1 + 16)), (q2, zi cy (n1 + 16)), (q3, zi cy (n1 + 16))] H locs := J
  refine nr_putF X hC J (T := TX10) (N := 16) (index := 26) (ci := 10) 0 4 rfl rfl in_X10 (by decide) mv_fieldLink_TinyCWalker_26_TinyCWalker_nodes_I rfl tyX10 tyX10_ok nmX10 rfl rfl rfl (Nat.le_of_ble_eq_true rfl) dX10_init_41 (fun H locs J => ?_)
  have J : nJ D A s.heap [(h0, .inr (10, [.int (nI n1), .ref a2, .ref q1, .ref q2, .ref q3, .null, .null, .null, .null, .int 0, .int 0, .int 0, .int 0, .int 0, .int 0, .int 0])), (q1, zi cy (n1 + 16)), (q2, zi cy (n1 + 16)), (q3, zi cy (n1 + 16))] H locs := J
  refine lv_aload_n hx hb dX10_init_44 rfl (lv_at hl 0 rfl) ?_
  refine lv_iload_n hx hb dX10_init_45 rfl (lv_at hl 1 rfl) ?_
  refine nr_newi X J (N' := n1) rfl (by omega) mv_arrayClass_int (by show 3 + 1 ≤ 6; omega) (by show 12336 + n1 ≤ 24640; omega) dX10_init_46 (fun q4 H J => ?_)
  refine W.widen (k := 4) (n := 16432) (by omega) (by omega) ?_
  have J : nJ D A s.heap [(h0, .inr (10, [.int (nI n1), .ref a2, .ref q1, .ref q2, .ref q3, .null, .null, .null, .null, .int 0, .int 0, .int 0, .int 0, .int 0, .int 0, .int 0])), (q1, zi cy (n1 + 16)), (q2, zi cy (n1 + 16)), (q3, zi cy (n1 + 16)), (q4, zi cy n1)] H locs := J
  refine nr_putF X hC J (T := TX10) (N := 16) (index := 29) (ci := 10) 0 5 rfl rfl in_X10 (by decide) mv_fieldLink_TinyCWalker_29_TinyCWalker_globals_I rfl tyX10 tyX10_ok nmX10 rfl rfl rfl (Nat.le_of_ble_eq_true rfl) dX10_init_48 (fun H locs J => ?_)
  have J : nJ D A s.heap [(h0, .inr (10, [.int (nI n1), .ref a2, .ref q1, .ref q2, .ref q3, .ref q4, .null, .null, .null, .int 0, .int 0, .int 0, .int 0, .int 0, .int 0, .int 0])), (q1, zi cy (n1 + 16)), (q2, zi cy (n1 + 16)), (q3, zi cy (n1 + 16)), (q4, zi cy n1)] H locs := J
  refine lv_aload_n hx hb dX10_init_51 rfl (lv_at hl 0 rfl) ?_
  refine lv_iload_n hx hb dX10_init_52 rfl (lv_at hl 1 rfl) ?_
  refine nr_newi X J (N' := n1) rfl (by omega) mv_arrayClass_int (by show 4 + 1 ≤ 6; omega) (by show 16432 + n1 ≤ 24640; omega) dX10_init_53 (fun q5 H J => ?_)
  refine W.widen (k := 5) (n := 20528) (by omega) (by omega) ?_
  have J : nJ D A s.heap [(h0, .inr (10, [.int (nI n1), .ref a2, .ref q1, .ref q2, .ref q3, .ref q4, .null, .null, .null, .int 0, .int 0, .int 0, .int 0, .int 0, .int 0, .int 0])), (q1, zi cy (n1 + 16)), (q2, zi cy (n1 + 16)), (q3, zi cy (n1 + 16)), (q4, zi cy n1), (q5, zi cy n1)] H locs := J
  refine nr_putF X hC J (T := TX10) (N := 16) (index := 32) (ci := 10) 0 6 rfl rfl in_X10 (by decide) mv_fieldLink_TinyCWalker_32_TinyCWalker_frameCells_I rfl tyX10 tyX10_ok nmX10 rfl rfl rfl (Nat.le_of_ble_eq_true rfl) dX10_init_55 (fun H locs J => ?_)
  have J : nJ D A s.heap [(h0, .inr (10, [.int (nI n1), .ref a2, .ref q1, .ref q2, .ref q3, .ref q4, .ref q5, .null, .null, .int 0, .int 0, .int 0, .int 0, .int 0, .int 0, .int 0])), (q1, zi cy (n1 + 16)), (q2, zi cy (n1 + 16)), (q3, zi cy (n1 + 16)), (q4, zi cy n1), (q5, zi cy n1)] H locs := J
  refine lv_aload_n hx hb dX10_init_58 rfl (lv_at hl 0 rfl) ?_
  refine lv_iload_n hx hb dX10_init_59 rfl (lv_at hl 1 rfl) ?_
  refine lv_bipush (v := (16 : Int32)) hx hb dX10_init_60 (by decide) ?_
  refine lv_iadd hx hb dX10_init_62 ?_
  refine nr_newi X J (N' := (n1 + 16)) (show ((nI n1) + (16 : Int32)) = nI (n1 + 16) from nI_add _ 16) (by omega) mv_arrayClass_int (by show 5 + 1 ≤ 6; omega) (by show 20528 + (n1 + 16) ≤ 24640; omega) dX10_init_63 (fun q6 H J => ?_)
  refine W.widen (k := 6) (n := 24640) (by omega) (by omega) ?_
  have J : nJ D A s.heap [(h0, .inr (10, [.int (nI n1), .ref a2, .ref q1, .ref q2, .ref q3, .ref q4, .ref q5, .null, .null, .int 0, .int 0, .int 0, .int 0, .int 0, .int 0, .int 0])), (q1, zi cy (n1 + 16)), (q2, zi cy (n1 + 16)), (q3, zi cy (n1 + 16)), (q4, zi cy n1), (q5, zi cy n1), (q6, zi cy (n1 + 16))] H locs := J
  refine nr_putF X hC J (T := TX10) (N := 16) (index := 35) (ci := 10) 0 7 rfl rfl in_X10 (by decide) mv_fieldLink_TinyCWalker_35_TinyCWalker_frameStarts_I rfl tyX10 tyX10_ok nmX10 rfl rfl rfl (Nat.le_of_ble_eq_true rfl) dX10_init_65 (fun H locs J => ?_)
  have J : nJ D A s.heap [(h0, .inr (10, [.int (nI n1), .ref a2, .ref q1, .ref q2, .ref q3, .ref q4, .ref q5, .ref q6, .null, .int 0, .int 0, .int 0, .int 0, .int 0, .int 0, .int 0])), (q1, zi cy (n1 + 16)), (q2, zi cy (n1 + 16)), (q3, zi cy (n1 + 16)), (q4, zi cy n1), (q5, zi cy n1), (q6, zi cy (n1 + 16))] H locs := J
  exact nr_ret X hC J (fun i => ([q1, q2, q3, q4, q5, q6] : List Nat).getD i 0) [0, 1, 2, 3, 4, 5, 6] (by decide) rfl (by omega) (by omega) dX10_init_68

set_option maxHeartbeats 4000000 in
set_option maxRecDepth 100000 in
theorem vX1_init (l : Launch) (D : va_G) (cy : Nat → ClassId) (h0 a1 a2 n3 : Nat) : nM l yX1_init cX1_init 4 1 0 0 D cy [.ref h0, .ref a1, .ref a2, .int (nI n3)] [(h0, .inr (1, [.null, .null, .int 0, .int 0, .int 0, .int 0]))] (fun ad => [(h0, .inr (1, [.ref a1, .ref a2, .int (nI n3), .int 0, .int 0, .int 0]))]) := by
  refine nM_of (by decide) (Nat.le_of_ble_eq_true rfl) (fun p e s m args below meth c ls A H locs X hC J hl => ?_)
  have X : nX p s m args c D cy cX1_init 4 RX1 := X
  have hC : nC meth := hC rfl
  have hx := X.1
  have hb := X.2.1
  have hl : lv_has ls 4 [(0, .ref h0), (1, .ref a1), (2, .ref a2), (3, .int (nI n3))] := hl
  refine lv_aload_n hx hb dX1_init_0 rfl (lv_at hl 0 rfl) ?_
  refine nr_obj X mv_methodLink_TinyCDesk_3_javalangObject_init_V mv_instanceMethod_javalangObject_init_V mv_code_javalangObject_init_V hl.1 (Nat.le_of_ble_eq_true rfl) (Nat.le_of_ble_eq_true rfl) dX1_init_1 ?_
  refine lv_aload_n hx hb dX1_init_4 rfl (lv_at hl 0 rfl) ?_
  refine lv_aload_n hx hb dX1_init_5 rfl (lv_at hl 1 rfl) ?_
  refine nr_putF X hC J (T := TX1) (N := 6) (index := 9) (ci := 1) 0 0 rfl rfl in_X1 (by decide) mv_fieldLink_TinyCDesk_9_TinyCDesk_scan_LTinyCScan rfl tyX1 tyX1_ok nmX1 rfl rfl rfl (Nat.le_of_ble_eq_true rfl) dX1_init_6 (fun H locs J => ?_)
  have J : nJ D A s.heap [(h0, .inr (1, [.ref a1, .null, .int 0, .int 0, .int 0, .int 0]))] H locs := J
  refine lv_aload_n hx hb dX1_init_9 rfl (lv_at hl 0 rfl) ?_
  refine lv_aload_n hx hb dX1_init_10 rfl (lv_at hl 2 rfl) ?_
  refine nr_putF X hC J (T := TX1) (N := 6) (index := 15) (ci := 1) 0 1 rfl rfl in_X1 (by decide) mv_fieldLink_TinyCDesk_15_TinyCDesk_names_LTinyCNames rfl tyX1 tyX1_ok nmX1 rfl rfl rfl (Nat.le_of_ble_eq_true rfl) dX1_init_11 (fun H locs J => ?_)
  have J : nJ D A s.heap [(h0, .inr (1, [.ref a1, .ref a2, .int 0, .int 0, .int 0, .int 0]))] H locs := J
  refine lv_aload_n hx hb dX1_init_14 rfl (lv_at hl 0 rfl) ?_
  refine lv_iload_n hx hb dX1_init_15 rfl (lv_at hl 3 rfl) ?_
  refine nr_putF X hC J (T := TX1) (N := 6) (index := 19) (ci := 1) 0 2 rfl rfl in_X1 (by decide) mv_fieldLink_TinyCDesk_19_TinyCDesk_treeCells_I rfl tyX1 tyX1_ok nmX1 rfl rfl rfl (Nat.le_of_ble_eq_true rfl) dX1_init_16 (fun H locs J => ?_)
  have J : nJ D A s.heap [(h0, .inr (1, [.ref a1, .ref a2, .int (nI n3), .int 0, .int 0, .int 0]))] H locs := J
  exact nr_ret X hC J (fun i => ([] : List Nat).getD i 0) [0] (by decide) rfl (by omega) (by omega) dX1_init_19

set_option maxHeartbeats 4000000 in
set_option maxRecDepth 100000 in
theorem vX5_init (l : Launch) (D : va_G) (cy : Nat → ClassId) (h0 n1 n2 : Nat) (hn1 : n1 ≤ 4096) (hn2 : n2 ≤ 4096) : nM l yX5_init cX5_init 3 2 9 28681 D cy [.ref h0, .int (nI n1), .int (nI n2)] [(h0, .inr (5, [.null, .null, .int 0, .int 0, .int 0]))] (fun ad => [(h0, .inr (5, [.ref (ad 0), .ref (ad 7), .int 0, .int (-1 : Int32), .int 0])), ((ad 0), .inr (9, [.ref (ad 1), .ref (ad 2), .ref (ad 3), .ref (ad 4), .ref (ad 5), .ref (ad 6), .int 0])), ((ad 1), zi cy n1), ((ad 2), zi cy n1), ((ad 3), zi cy n1), ((ad 4), zi cy n1), ((ad 5), zi cy n1), ((ad 6), zi cy n1), ((ad 7), .inr (0, [.ref (ad 8), .int 0])), ((ad 8), zi cy n2)]) := by
  refine nM_of (by decide) (Nat.le_of_ble_eq_true rfl) (fun p e s m args below meth c ls A H locs X hC J hl => ?_)
  have X : nX p s m args c D cy cX5_init 3 RX5 := X
  have hC : nC meth := hC rfl
  have hx := X.1
  have hb := X.2.1
  have hl : lv_has ls 3 [(0, .ref h0), (1, .int (nI n1)), (2, .int (nI n2))] := hl
  refine lv_aload_n hx hb dX5_init_0 rfl (lv_at hl 0 rfl) ?_
  refine nr_obj X mv_methodLink_TinyCProgram_1_javalangObject_init_V mv_instanceMethod_javalangObject_init_V mv_code_javalangObject_init_V hl.1 (Nat.le_of_ble_eq_true rfl) (Nat.le_of_ble_eq_true rfl) dX5_init_1 ?_
  refine lv_aload_n hx hb dX5_init_4 rfl (lv_at hl 0 rfl) ?_
  refine nr_new X J (C := RX9) (T := TX9) (N := 7) (index := 7) (ci := 9) rfl in_X9 tyX9 tyX9_ok mv_classLink_TinyCProgram_TinyCTree_7 mv_instantiable_TinyCTree_7 mv_initialized_TinyCTree (fs := [.null, .null, .null, .null, .null, .null, .int 0]) nd_X9 (by show 0 + 1 ≤ 9; omega) (by show 0 + 7 ≤ 28681; omega) dX5_init_5 (fun q1 H J => ?_)
  refine W.widen (k := 1) (n := 7) (by omega) (by omega) ?_
  have J : nJ D A s.heap [(h0, .inr (5, [.null, .null, .int 0, .int 0, .int 0])), (q1, .inr (9, [.null, .null, .null, .null, .null, .null, .int 0]))] H locs := J
  refine lv_dup hx hb dX5_init_8 rfl ?_
  refine lv_iload_n hx hb dX5_init_9 rfl (lv_at hl 1 rfl) ?_
  refine nr_callN X J (wc := [(q1, .inr (9, [.null, .null, .null, .null, .null, .null, .int 0]))]) (wr := [(h0, .inr (5, [.null, .null, .int 0, .int 0, .int 0]))]) [1] [0] rfl rfl (by decide) (by decide) (by decide) ny_X9_init mv_methodLinkNest_TinyCProgram_9_TinyCTree_init_IV_TinyC ⟨Nat.le_of_ble_eq_true rfl, Nat.le_of_ble_eq_true rfl⟩ hl.1 (As := [.int (nI n1)]) rfl (Nat.le_of_ble_eq_true rfl) (vX9_init l D cy q1 n1 (by first | assumption | exact clN_le _)) dX5_init_10 ⟨(by show 1 + 6 ≤ 9; omega), (by show 7 + 24576 ≤ 28681; omega)⟩ (fun ad2 H locs J => ?_)
  refine W.widen (k := 7) (n := 24583) (by omega) (by omega) ?_
  have J : nJ D A s.heap [(h0, .inr (5, [.null, .null, .int 0, .int 0, .int 0])), (q1, .inr (9, [.ref (ad2 0), .ref (ad2 1), .ref (ad2 2), .ref (ad2 3), .ref (ad2 4), .ref (ad2 5), .int 0])), ((ad2 0), zi cy n1), ((ad2 1), zi cy n1), ((ad2 2), zi cy n1), ((ad2 3), zi cy n1), ((ad2 4), zi cy n1), ((ad2 5), zi cy n1)] H locs := J
  refine nr_putF X hC J (T := TX5) (N := 5) (index := 12) (ci := 5) 0 0 rfl rfl in_X5 (by decide) mv_fieldLink_TinyCProgram_12_TinyCProgram_tree_LTinyCTree rfl tyX5 tyX5_ok nmX5 rfl rfl rfl (Nat.le_of_ble_eq_true rfl) dX5_init_13 (fun H locs J => ?_)
  have J : nJ D A s.heap [(h0, .inr (5, [.ref q1, .null, .int 0, .int 0, .int 0])), (q1, .inr (9, [.ref (ad2 0), .ref (ad2 1), .ref (ad2 2), .ref (ad2 3), .ref (ad2 4), .ref (ad2 5), .int 0])), ((ad2 0), zi cy n1), ((ad2 1), zi cy n1), ((ad2 2), zi cy n1), ((ad2 3), zi cy n1), ((ad2 4), zi cy n1), ((ad2 5), zi cy n1)] H locs := J
  refine lv_aload_n hx hb dX5_init_16 rfl (lv_at hl 0 rfl) ?_
  refine nr_new X J (C := RX0) (T := TX0) (N := 2) (index := 18) (ci := 0) rfl in_X0 tyX0 tyX0_ok mv_classLink_TinyCProgram_TinyCCode_18 mv_instantiable_TinyCCode_2 mv_initialized_TinyCCode (fs := [.null, .int 0]) nd_X0 (by show 7 + 1 ≤ 9; omega) (by show 24583 + 2 ≤ 28681; omega) dX5_init_17 (fun q3 H J => ?_)
  refine W.widen (k := 8) (n := 24585) (by omega) (by omega) ?_
  have J : nJ D A s.heap [(h0, .inr (5, [.ref q1, .null, .int 0, .int 0, .int 0])), (q1, .inr (9, [.ref (ad2 0), .ref (ad2 1), .ref (ad2 2), .ref (ad2 3), .ref (ad2 4), .ref (ad2 5), .int 0])), ((ad2 0), zi cy n1), ((ad2 1), zi cy n1), ((ad2 2), zi cy n1), ((ad2 3), zi cy n1), ((ad2 4), zi cy n1), ((ad2 5), zi cy n1), (q3, .inr (0, [.null, .int 0]))] H locs := J
  refine lv_dup hx hb dX5_init_20 rfl ?_
  refine lv_iload_n hx hb dX5_init_21 rfl (lv_at hl 2 rfl) ?_
  refine nr_callN X J (wc := [(q3, .inr (0, [.null, .int 0]))]) (wr := [(h0, .inr (5, [.ref q1, .null, .int 0, .int 0, .int 0])), (q1, .inr (9, [.ref (ad2 0), .ref (ad2 1), .ref (ad2 2), .ref (ad2 3), .ref (ad2 4), .ref (ad2 5), .int 0])), ((ad2 0), zi cy n1), ((ad2 1), zi cy n1), ((ad2 2), zi cy n1), ((ad2 3), zi cy n1), ((ad2 4), zi cy n1), ((ad2 5), zi cy n1)]) [8] [0, 1, 2, 3, 4, 5, 6, 7] rfl rfl (by decide) (by decide) (by decide) ny_X0_init mv_methodLinkNest_TinyCProgram_20_TinyCCode_init_IV_TinyC ⟨Nat.le_of_ble_eq_true rfl, Nat.le_of_ble_eq_true rfl⟩ hl.1 (As := [.int (nI n2)]) rfl (Nat.le_of_ble_eq_true rfl) (vX0_init l D cy q3 n2 (by first | assumption | exact clN_le _)) dX5_init_22 ⟨(by show 8 + 1 ≤ 9; omega), (by show 24585 + 4096 ≤ 28681; omega)⟩ (fun ad4 H locs J => ?_)
  refine W.widen (k := 9) (n := 28681) (by omega) (by omega) ?_
  have J : nJ D A s.heap [(h0, .inr (5, [.ref q1, .null, .int 0, .int 0, .int 0])), (q1, .inr (9, [.ref (ad2 0), .ref (ad2 1), .ref (ad2 2), .ref (ad2 3), .ref (ad2 4), .ref (ad2 5), .int 0])), ((ad2 0), zi cy n1), ((ad2 1), zi cy n1), ((ad2 2), zi cy n1), ((ad2 3), zi cy n1), ((ad2 4), zi cy n1), ((ad2 5), zi cy n1), (q3, .inr (0, [.ref (ad4 0), .int 0])), ((ad4 0), zi cy n2)] H locs := J
  refine nr_putF X hC J (T := TX5) (N := 5) (index := 21) (ci := 5) 0 1 rfl rfl in_X5 (by decide) mv_fieldLink_TinyCProgram_21_TinyCProgram_code_LTinyCCode rfl tyX5 tyX5_ok nmX5 rfl rfl rfl (Nat.le_of_ble_eq_true rfl) dX5_init_25 (fun H locs J => ?_)
  have J : nJ D A s.heap [(h0, .inr (5, [.ref q1, .ref q3, .int 0, .int 0, .int 0])), (q1, .inr (9, [.ref (ad2 0), .ref (ad2 1), .ref (ad2 2), .ref (ad2 3), .ref (ad2 4), .ref (ad2 5), .int 0])), ((ad2 0), zi cy n1), ((ad2 1), zi cy n1), ((ad2 2), zi cy n1), ((ad2 3), zi cy n1), ((ad2 4), zi cy n1), ((ad2 5), zi cy n1), (q3, .inr (0, [.ref (ad4 0), .int 0])), ((ad4 0), zi cy n2)] H locs := J
  refine lv_aload_n hx hb dX5_init_28 rfl (lv_at hl 0 rfl) ?_
  refine lv_iconst (v := (-1 : Int32)) hx hb dX5_init_29 (by decide) ?_
  refine nr_put X J (C := RX5) (T := TX5) (N := 5) (index := 25) (ci := 5) 0 3 rfl rfl in_X5 (by decide) mv_fieldLink_TinyCProgram_25_TinyCProgram_main_I rfl tyX5 tyX5_ok nmX5 rfl rfl rfl (Nat.le_of_ble_eq_true rfl) dX5_init_30 (fun H locs J => ?_)
  have J : nJ D A s.heap [(h0, .inr (5, [.ref q1, .ref q3, .int 0, .int (-1 : Int32), .int 0])), (q1, .inr (9, [.ref (ad2 0), .ref (ad2 1), .ref (ad2 2), .ref (ad2 3), .ref (ad2 4), .ref (ad2 5), .int 0])), ((ad2 0), zi cy n1), ((ad2 1), zi cy n1), ((ad2 2), zi cy n1), ((ad2 3), zi cy n1), ((ad2 4), zi cy n1), ((ad2 5), zi cy n1), (q3, .inr (0, [.ref (ad4 0), .int 0])), ((ad4 0), zi cy n2)] H locs := J
  exact nr_ret X hC J (fun i => ([q1, (ad2 0), (ad2 1), (ad2 2), (ad2 3), (ad2 4), (ad2 5), q3, (ad4 0)] : List Nat).getD i 0) [0, 1, 2, 3, 4, 5, 6, 7, 8, 9] (by decide) rfl (by omega) (by omega) dX5_init_33

set_option maxHeartbeats 4000000 in
set_option maxRecDepth 100000 in
theorem vX2_init (l : Launch) (D : va_G) (cy : Nat → ClassId) (h0 a1 x1 x2 n3 : Nat) : nM l yX2_init cX2_init 2 1 3 1536 D cy [.ref h0, .ref a1] [(h0, .inr (2, [.null, .null, .null, .null, .null, .null, .int 0, .int 0, .null, .null])), (a1, .inr (1, [.ref x1, .ref x2, .int (nI n3), .int 0, .int 0, .int 0]))] (fun ad => [(h0, .inr (2, [.ref a1, .ref x1, .ref x2, .ref (ad 0), .ref (ad 1), .ref (ad 2), .int 0, .int 0, .null, .null])), (a1, .inr (1, [.ref x1, .ref x2, .int (nI n3), .int 0, .int 0, .int 0])), ((ad 0), zi cy 512), ((ad 1), zi cy 512), ((ad 2), zi cy 512)]) := by
  refine nM_of (by decide) (Nat.le_of_ble_eq_true rfl) (fun p e s m args below meth c ls A H locs X hC J hl => ?_)
  have X : nX p s m args c D cy cX2_init 2 RX2 := X
  have hC : nC meth := hC rfl
  have hx := X.1
  have hb := X.2.1
  have hl : lv_has ls 2 [(0, .ref h0), (1, .ref a1)] := hl
  refine lv_aload_n hx hb dX2_init_0 rfl (lv_at hl 0 rfl) ?_
  refine nr_obj X mv_methodLink_TinyCExpressions_3_javalangObject_init_V mv_instanceMethod_javalangObject_init_V mv_code_javalangObject_init_V hl.1 (Nat.le_of_ble_eq_true rfl) (Nat.le_of_ble_eq_true rfl) dX2_init_1 ?_
  refine lv_aload_n hx hb dX2_init_4 rfl (lv_at hl 0 rfl) ?_
  refine lv_aload_n hx hb dX2_init_5 rfl (lv_at hl 1 rfl) ?_
  refine nr_putF X hC J (T := TX2) (N := 10) (index := 9) (ci := 2) 0 0 rfl rfl in_X2 (by decide) mv_fieldLink_TinyCExpressions_9_TinyCExpressions_desk_LTinyCDesk rfl tyX2 tyX2_ok nmX2 rfl rfl rfl (Nat.le_of_ble_eq_true rfl) dX2_init_6 (fun H locs J => ?_)
  have J : nJ D A s.heap [(h0, .inr (2, [.ref a1, .null, .null, .null, .null, .null, .int 0, .int 0, .null, .null])), (a1, .inr (1, [.ref x1, .ref x2, .int (nI n3), .int 0, .int 0, .int 0]))] H locs := J
  refine lv_aload_n hx hb dX2_init_9 rfl (lv_at hl 0 rfl) ?_
  refine lv_aload_n hx hb dX2_init_10 rfl (lv_at hl 1 rfl) ?_
  refine nr_getN X J (C := RX1) (T := TX1) (N := 6) (index := 15) (ci := 1) 1 0 rfl rfl in_X1 (by decide) mv_fieldLinkNest_TinyCExpressions_15_TinyCDesk_scan_LTinyCScan_TinyC rfl rfl dX2_init_11 ?_
  refine nr_putF X hC J (T := TX2) (N := 10) (index := 21) (ci := 2) 0 1 rfl rfl in_X2 (by decide) mv_fieldLink_TinyCExpressions_21_TinyCExpressions_scan_LTinyCScan rfl tyX2 tyX2_ok nmX2 rfl rfl rfl (Nat.le_of_ble_eq_true rfl) dX2_init_14 (fun H locs J => ?_)
  have J : nJ D A s.heap [(h0, .inr (2, [.ref a1, .ref x1, .null, .null, .null, .null, .int 0, .int 0, .null, .null])), (a1, .inr (1, [.ref x1, .ref x2, .int (nI n3), .int 0, .int 0, .int 0]))] H locs := J
  refine lv_aload_n hx hb dX2_init_17 rfl (lv_at hl 0 rfl) ?_
  refine lv_aload_n hx hb dX2_init_18 rfl (lv_at hl 1 rfl) ?_
  refine nr_getN X J (C := RX1) (T := TX1) (N := 6) (index := 22) (ci := 1) 1 1 rfl rfl in_X1 (by decide) mv_fieldLinkNest_TinyCExpressions_22_TinyCDesk_names_LTinyCNames_TinyC rfl rfl dX2_init_19 ?_
  refine nr_putF X hC J (T := TX2) (N := 10) (index := 26) (ci := 2) 0 2 rfl rfl in_X2 (by decide) mv_fieldLink_TinyCExpressions_26_TinyCExpressions_names_LTinyCNames rfl tyX2 tyX2_ok nmX2 rfl rfl rfl (Nat.le_of_ble_eq_true rfl) dX2_init_22 (fun H locs J => ?_)
  have J : nJ D A s.heap [(h0, .inr (2, [.ref a1, .ref x1, .ref x2, .null, .null, .null, .int 0, .int 0, .null, .null])), (a1, .inr (1, [.ref x1, .ref x2, .int (nI n3), .int 0, .int 0, .int 0]))] H locs := J
  refine lv_aload_n hx hb dX2_init_25 rfl (lv_at hl 0 rfl) ?_
  refine lv_sipush (v := (512 : Int32)) hx hb dX2_init_26 (by decide) ?_
  refine nr_newi X J (N' := 512) (show (512 : Int32) = nI 512 from rfl) (by omega) mv_arrayClass_int (by show 0 + 1 ≤ 3; omega) (by show 0 + 512 ≤ 1536; omega) dX2_init_29 (fun q1 H J => ?_)
  refine W.widen (k := 1) (n := 512) (by omega) (by omega) ?_
  have J : nJ D A s.heap [(h0, .inr (2, [.ref a1, .ref x1, .ref x2, .null, .null, .null, .int 0, .int 0, .null, .null])), (a1, .inr (1, [.ref x1, .ref x2, .int (nI n3), .int 0, .int 0, .int 0])), (q1, zi cy 512)] H locs := J
  refine nr_putF X hC J (T := TX2) (N := 10) (index := 27) (ci := 2) 0 3 rfl rfl in_X2 (by decide) mv_fieldLink_TinyCExpressions_27_TinyCExpressions_signs_I rfl tyX2 tyX2_ok nmX2 rfl rfl rfl (Nat.le_of_ble_eq_true rfl) dX2_init_31 (fun H locs J => ?_)
  have J : nJ D A s.heap [(h0, .inr (2, [.ref a1, .ref x1, .ref x2, .ref q1, .null, .null, .int 0, .int 0, .null, .null])), (a1, .inr (1, [.ref x1, .ref x2, .int (nI n3), .int 0, .int 0, .int 0])), (q1, zi cy 512)] H locs := J
  refine lv_aload_n hx hb dX2_init_34 rfl (lv_at hl 0 rfl) ?_
  refine lv_sipush (v := (512 : Int32)) hx hb dX2_init_35 (by decide) ?_
  refine nr_newi X J (N' := 512) (show (512 : Int32) = nI 512 from rfl) (by omega) mv_arrayClass_int (by show 1 + 1 ≤ 3; omega) (by show 512 + 512 ≤ 1536; omega) dX2_init_38 (fun q2 H J => ?_)
  refine W.widen (k := 2) (n := 1024) (by omega) (by omega) ?_
  have J : nJ D A s.heap [(h0, .inr (2, [.ref a1, .ref x1, .ref x2, .ref q1, .null, .null, .int 0, .int 0, .null, .null])), (a1, .inr (1, [.ref x1, .ref x2, .int (nI n3), .int 0, .int 0, .int 0])), (q1, zi cy 512), (q2, zi cy 512)] H locs := J
  refine nr_putF X hC J (T := TX2) (N := 10) (index := 31) (ci := 2) 0 4 rfl rfl in_X2 (by decide) mv_fieldLink_TinyCExpressions_31_TinyCExpressions_firsts_I rfl tyX2 tyX2_ok nmX2 rfl rfl rfl (Nat.le_of_ble_eq_true rfl) dX2_init_40 (fun H locs J => ?_)
  have J : nJ D A s.heap [(h0, .inr (2, [.ref a1, .ref x1, .ref x2, .ref q1, .ref q2, .null, .int 0, .int 0, .null, .null])), (a1, .inr (1, [.ref x1, .ref x2, .int (nI n3), .int 0, .int 0, .int 0])), (q1, zi cy 512), (q2, zi cy 512)] H locs := J
  refine lv_aload_n hx hb dX2_init_43 rfl (lv_at hl 0 rfl) ?_
  refine lv_sipush (v := (512 : Int32)) hx hb dX2_init_44 (by decide) ?_
  refine nr_newi X J (N' := 512) (show (512 : Int32) = nI 512 from rfl) (by omega) mv_arrayClass_int (by show 2 + 1 ≤ 3; omega) (by show 1024 + 512 ≤ 1536; omega) dX2_init_47 (fun q3 H J => ?_)
  refine W.widen (k := 3) (n := 1536) (by omega) (by omega) ?_
  have J : nJ D A s.heap [(h0, .inr (2, [.ref a1, .ref x1, .ref x2, .ref q1, .ref q2, .null, .int 0, .int 0, .null, .null])), (a1, .inr (1, [.ref x1, .ref x2, .int (nI n3), .int 0, .int 0, .int 0])), (q1, zi cy 512), (q2, zi cy 512), (q3, zi cy 512)] H locs := J
  refine nr_putF X hC J (T := TX2) (N := 10) (index := 34) (ci := 2) 0 5 rfl rfl in_X2 (by decide) mv_fieldLink_TinyCExpressions_34_TinyCExpressions_holes_I rfl tyX2 tyX2_ok nmX2 rfl rfl rfl (Nat.le_of_ble_eq_true rfl) dX2_init_49 (fun H locs J => ?_)
  have J : nJ D A s.heap [(h0, .inr (2, [.ref a1, .ref x1, .ref x2, .ref q1, .ref q2, .ref q3, .int 0, .int 0, .null, .null])), (a1, .inr (1, [.ref x1, .ref x2, .int (nI n3), .int 0, .int 0, .int 0])), (q1, zi cy 512), (q2, zi cy 512), (q3, zi cy 512)] H locs := J
  exact nr_ret X hC J (fun i => ([q1, q2, q3] : List Nat).getD i 0) [0, 1, 2, 3, 4] (by decide) rfl (by omega) (by omega) dX2_init_52

set_option maxHeartbeats 4000000 in
set_option maxRecDepth 100000 in
theorem vX6_init (l : Launch) (D : va_G) (cy : Nat → ClassId) (h0 a1 x1 x2 n3 : Nat) : nM l yX6_init cX6_init 2 2 4 1546 D cy [.ref h0, .ref a1] [(h0, .inr (6, [.null, .null, .null, .null, .null, .null, .null, .int 0, .int 0, .int 0])), (a1, .inr (1, [.ref x1, .ref x2, .int (nI n3), .int 0, .int 0, .int 0]))] (fun ad => [(h0, .inr (6, [.ref a1, .ref x1, .ref x2, .ref (ad 0), .null, .null, .null, .int 0, .int 0, .int 0])), ((ad 0), .inr (2, [.ref a1, .ref x1, .ref x2, .ref (ad 1), .ref (ad 2), .ref (ad 3), .int 0, .int 0, .null, .null])), (a1, .inr (1, [.ref x1, .ref x2, .int (nI n3), .int 0, .int 0, .int 0])), ((ad 1), zi cy 512), ((ad 2), zi cy 512), ((ad 3), zi cy 512)]) := by
  refine nM_of (by decide) (Nat.le_of_ble_eq_true rfl) (fun p e s m args below meth c ls A H locs X hC J hl => ?_)
  have X : nX p s m args c D cy cX6_init 2 RX6 := X
  have hC : nC meth := hC rfl
  have hx := X.1
  have hb := X.2.1
  have hl : lv_has ls 2 [(0, .ref h0), (1, .ref a1)] := hl
  refine lv_aload_n hx hb dX6_init_0 rfl (lv_at hl 0 rfl) ?_
  refine nr_obj X mv_methodLink_TinyCReader_3_javalangObject_init_V mv_instanceMethod_javalangObject_init_V mv_code_javalangObject_init_V hl.1 (Nat.le_of_ble_eq_true rfl) (Nat.le_of_ble_eq_true rfl) dX6_init_1 ?_
  refine lv_aload_n hx hb dX6_init_4 rfl (lv_at hl 0 rfl) ?_
  refine lv_aload_n hx hb dX6_init_5 rfl (lv_at hl 1 rfl) ?_
  refine nr_putF X hC J (T := TX6) (N := 10) (index := 9) (ci := 6) 0 0 rfl rfl in_X6 (by decide) mv_fieldLink_TinyCReader_9_TinyCReader_desk_LTinyCDesk rfl tyX6 tyX6_ok nmX6 rfl rfl rfl (Nat.le_of_ble_eq_true rfl) dX6_init_6 (fun H locs J => ?_)
  have J : nJ D A s.heap [(h0, .inr (6, [.ref a1, .null, .null, .null, .null, .null, .null, .int 0, .int 0, .int 0])), (a1, .inr (1, [.ref x1, .ref x2, .int (nI n3), .int 0, .int 0, .int 0]))] H locs := J
  refine lv_aload_n hx hb dX6_init_9 rfl (lv_at hl 0 rfl) ?_
  refine lv_aload_n hx hb dX6_init_10 rfl (lv_at hl 1 rfl) ?_
  refine nr_getN X J (C := RX1) (T := TX1) (N := 6) (index := 15) (ci := 1) 1 0 rfl rfl in_X1 (by decide) mv_fieldLinkNest_TinyCReader_15_TinyCDesk_scan_LTinyCScan_TinyC rfl rfl dX6_init_11 ?_
  refine nr_putF X hC J (T := TX6) (N := 10) (index := 21) (ci := 6) 0 1 rfl rfl in_X6 (by decide) mv_fieldLink_TinyCReader_21_TinyCReader_scan_LTinyCScan rfl tyX6 tyX6_ok nmX6 rfl rfl rfl (Nat.le_of_ble_eq_true rfl) dX6_init_14 (fun H locs J => ?_)
  have J : nJ D A s.heap [(h0, .inr (6, [.ref a1, .ref x1, .null, .null, .null, .null, .null, .int 0, .int 0, .int 0])), (a1, .inr (1, [.ref x1, .ref x2, .int (nI n3), .int 0, .int 0, .int 0]))] H locs := J
  refine lv_aload_n hx hb dX6_init_17 rfl (lv_at hl 0 rfl) ?_
  refine lv_aload_n hx hb dX6_init_18 rfl (lv_at hl 1 rfl) ?_
  refine nr_getN X J (C := RX1) (T := TX1) (N := 6) (index := 22) (ci := 1) 1 1 rfl rfl in_X1 (by decide) mv_fieldLinkNest_TinyCReader_22_TinyCDesk_names_LTinyCNames_TinyC rfl rfl dX6_init_19 ?_
  refine nr_putF X hC J (T := TX6) (N := 10) (index := 26) (ci := 6) 0 2 rfl rfl in_X6 (by decide) mv_fieldLink_TinyCReader_26_TinyCReader_names_LTinyCNames rfl tyX6 tyX6_ok nmX6 rfl rfl rfl (Nat.le_of_ble_eq_true rfl) dX6_init_22 (fun H locs J => ?_)
  have J : nJ D A s.heap [(h0, .inr (6, [.ref a1, .ref x1, .ref x2, .null, .null, .null, .null, .int 0, .int 0, .int 0])), (a1, .inr (1, [.ref x1, .ref x2, .int (nI n3), .int 0, .int 0, .int 0]))] H locs := J
  refine lv_aload_n hx hb dX6_init_25 rfl (lv_at hl 0 rfl) ?_
  refine nr_new X J (C := RX2) (T := TX2) (N := 10) (index := 27) (ci := 2) rfl in_X2 tyX2 tyX2_ok mv_classLink_TinyCReader_TinyCExpressions_27 mv_instantiable_TinyCExpressions_10 mv_initialized_TinyCExpressions (fs := [.null, .null, .null, .null, .null, .null, .int 0, .int 0, .null, .null]) nd_X2 (by show 0 + 1 ≤ 4; omega) (by show 0 + 10 ≤ 1546; omega) dX6_init_26 (fun q1 H J => ?_)
  refine W.widen (k := 1) (n := 10) (by omega) (by omega) ?_
  have J : nJ D A s.heap [(h0, .inr (6, [.ref a1, .ref x1, .ref x2, .null, .null, .null, .null, .int 0, .int 0, .int 0])), (a1, .inr (1, [.ref x1, .ref x2, .int (nI n3), .int 0, .int 0, .int 0])), (q1, .inr (2, [.null, .null, .null, .null, .null, .null, .int 0, .int 0, .null, .null]))] H locs := J
  refine lv_dup hx hb dX6_init_29 rfl ?_
  refine lv_aload_n hx hb dX6_init_30 rfl (lv_at hl 1 rfl) ?_
  refine nr_callN X J (wc := [(q1, .inr (2, [.null, .null, .null, .null, .null, .null, .int 0, .int 0, .null, .null])), (a1, .inr (1, [.ref x1, .ref x2, .int (nI n3), .int 0, .int 0, .int 0]))]) (wr := [(h0, .inr (6, [.ref a1, .ref x1, .ref x2, .null, .null, .null, .null, .int 0, .int 0, .int 0]))]) [2, 1] [0] rfl rfl (by decide) (by decide) (by decide) ny_X2_init mv_methodLinkNest_TinyCReader_29_TinyCExpressions_init_LTinyCDeskV_TinyC ⟨Nat.le_of_ble_eq_true rfl, Nat.le_of_ble_eq_true rfl⟩ hl.1 (As := [.ref a1]) rfl (Nat.le_of_ble_eq_true rfl) (vX2_init l D cy q1 a1 x1 x2 n3) dX6_init_31 ⟨(by show 1 + 3 ≤ 4; omega), (by show 10 + 1536 ≤ 1546; omega)⟩ (fun ad2 H locs J => ?_)
  refine W.widen (k := 4) (n := 1546) (by omega) (by omega) ?_
  have J : nJ D A s.heap [(h0, .inr (6, [.ref a1, .ref x1, .ref x2, .null, .null, .null, .null, .int 0, .int 0, .int 0])), (q1, .inr (2, [.ref a1, .ref x1, .ref x2, .ref (ad2 0), .ref (ad2 1), .ref (ad2 2), .int 0, .int 0, .null, .null])), (a1, .inr (1, [.ref x1, .ref x2, .int (nI n3), .int 0, .int 0, .int 0])), ((ad2 0), zi cy 512), ((ad2 1), zi cy 512), ((ad2 2), zi cy 512)] H locs := J
  refine nr_putF X hC J (T := TX6) (N := 10) (index := 32) (ci := 6) 0 3 rfl rfl in_X6 (by decide) mv_fieldLink_TinyCReader_32_TinyCReader_expressions_LTinyCExpressions rfl tyX6 tyX6_ok nmX6 rfl rfl rfl (Nat.le_of_ble_eq_true rfl) dX6_init_34 (fun H locs J => ?_)
  have J : nJ D A s.heap [(h0, .inr (6, [.ref a1, .ref x1, .ref x2, .ref q1, .null, .null, .null, .int 0, .int 0, .int 0])), (q1, .inr (2, [.ref a1, .ref x1, .ref x2, .ref (ad2 0), .ref (ad2 1), .ref (ad2 2), .int 0, .int 0, .null, .null])), (a1, .inr (1, [.ref x1, .ref x2, .int (nI n3), .int 0, .int 0, .int 0])), ((ad2 0), zi cy 512), ((ad2 1), zi cy 512), ((ad2 2), zi cy 512)] H locs := J
  exact nr_ret X hC J (fun i => ([q1, (ad2 0), (ad2 1), (ad2 2)] : List Nat).getD i 0) [0, 1, 2, 3, 4, 5] (by decide) rfl (by omega) (by omega) dX6_init_37
