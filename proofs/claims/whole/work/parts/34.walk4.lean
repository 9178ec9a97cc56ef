section
variable {p : Program} {l : Launch} {e : Env} {s : State} {m : MethodId} {args : Array Value} {below : List Frame} {meth : Method} {c : Code} {D : va_G} {cy : Nat → ClassId} {ad ts : Nat → Nat} {ln : Nat → Nat} {N M : Nat}
set_option maxHeartbeats 4000000 in
theorem bX6_assignment_20 {o : Int32 × zSt} (X : zX p s m args meth c D cy shC ad ts cX6_assignment 5 (some .int) RX6)  {x1_ : Int32}  {σ : zSt} {H : Heap} {locs : List Loc} {ls : Array Slot} (J : zJ D cy shC ad ln s σ H locs) (hl : lv_has ls 5 [(0, .ref (ad 2)), (1, .int x1_)]) (hf : fX6_assignment_b20 ln N M  x1_ σ = some o) : W p l e (zRm (4 * M + 4)) s m args below meth c H locs 0 0 (zQi D cy shC ad ts ln below args s o) (F0 m 20 ls []) := by
  have hx := X.1
  have hb := X.2.1
  unfold fX6_assignment_b20 at hf
  refine lv_aload_n hx hb dX6_assignment_20 rfl (lv_at hl 0 rfl) ?_
  refine gf_X6_21 X J dX6_assignment_21 ?_
  obtain ⟨r3, σ4, hc, hf⟩ := obd_some hf
  refine zr_callNv (As := []) (rest := []) X J 1 ho_C_X7.1 ho_C_X7.2.1 ho_C_X7.2.2 yy_X7_come mw_methodLinkNest_TinyCReader_81_TinyCScan_come_V_TinyC (d := 1) (zR_ok (by omega) (by decide)) hl.1 rfl (Nat.le_of_ble_eq_true rfl) (tX7_come  hc) dX6_assignment_24 (fun H locs J => ?_)
  refine lv_aload_n hx hb dX6_assignment_27 rfl (lv_at hl 0 rfl) ?_
  refine gf_X6_32 X J dX6_assignment_28 ?_
  refine lv_bipush (v := (56 : Int32)) hx hb dX6_assignment_31 (by decide) ?_
  obtain ⟨r5, σ6, hc, hf⟩ := obd_some hf
  refine zr_callNi (As := [.int (56 : Int32)]) (rest := []) X J 5 ho_C_X2.1 ho_C_X2.2.1 ho_C_X2.2.2 yy_X2_expression mw_methodLinkNest_TinyCReader_235_TinyCExpressions_expression_II_TinyC (d := 4 * M + 3) (zR_ok (by omega) (by decide)) hl.1 rfl (Nat.le_of_ble_eq_true rfl) (tX2_expression () _ _ _ _ hc) dX6_assignment_33 (fun H locs J => ?_)
  refine lv_istore_n hx hb dX6_assignment_36 rfl hl (by decide) rfl (fun ls hl => ?_)
  have hl : lv_has ls 5 [(3, .int r5), (0, .ref (ad 2)), (1, .int x1_)] := hl
  refine lv_aload_n hx hb dX6_assignment_37 rfl (lv_at hl 1 rfl) ?_
  refine gf_X6_21 X J dX6_assignment_38 ?_
  obtain ⟨r7, σ8, hc, hf⟩ := obd_some hf
  refine zr_callNv (As := []) (rest := []) X J 1 ho_C_X7.1 ho_C_X7.2.1 ho_C_X7.2.2 yy_X7_come mw_methodLinkNest_TinyCReader_81_TinyCScan_come_V_TinyC (d := 1) (zR_ok (by omega) (by decide)) hl.1 rfl (Nat.le_of_ble_eq_true rfl) (tX7_come  hc) dX6_assignment_41 (fun H locs J => ?_)
  refine lv_aload_n hx hb dX6_assignment_44 rfl (lv_at hl 1 rfl) ?_
  refine gf_X6_26 X J dX6_assignment_45 ?_
  refine lv_iload_n hx hb dX6_assignment_48 rfl (lv_at hl 2 rfl) ?_
  obtain ⟨r9, σ10, hc, hf⟩ := obd_some hf
  refine zr_callNi (As := [.int x1_]) (rest := []) X J 4 ho_C_X4.1 ho_C_X4.2.1 ho_C_X4.2.2 yy_X4_placeOf mw_methodLinkNest_TinyCReader_204_TinyCNames_placeOf_II_TinyC (d := 0) (zR_ok (by omega) (by decide)) hl.1 rfl (Nat.le_of_ble_eq_true rfl) (tX4_placeOf  hc) dX6_assignment_49 (fun H locs J => ?_)
  refine lv_istore hx hb dX6_assignment_52 hl (by decide) rfl (fun ls hl => ?_)
  have hl : lv_has ls 5 [(4, .int r9), (3, .int r5), (0, .ref (ad 2)), (1, .int x1_)] := hl
  refine lv_aload_n hx hb dX6_assignment_54 rfl (lv_at hl 2 rfl) ?_
  refine gf_X6_26 X J dX6_assignment_55 ?_
  refine lv_iload_n hx hb dX6_assignment_58 rfl (lv_at hl 3 rfl) ?_
  refine lv_iconst (v := (3 : Int32)) hx hb dX6_assignment_59 (by decide) ?_
  obtain ⟨r11, σ12, hc, hf⟩ := obd_some hf
  refine zr_callNi (As := [.int x1_, .int (3 : Int32)]) (rest := []) X J 4 ho_C_X4.1 ho_C_X4.2.1 ho_C_X4.2.2 yy_X4_isSort mw_methodLinkNest_TinyCReader_287_TinyCNames_isSort_IIZ_TinyC (d := 0) (zR_ok (by omega) (by decide)) hl.1 rfl (Nat.le_of_ble_eq_true rfl) (tX4_isSort  hc) dX6_assignment_60 (fun H locs J => ?_)
  refine lv_if_eq hx hb dX6_assignment_63 rfl (fun h => ?_) (fun h => ?_)
  · have hf := itp h hf
    refine lv_aload_n hx hb dX6_assignment_97 rfl (lv_at hl 2 rfl) ?_
    obtain ⟨q13, hq13, er, hf⟩ := rbd_some hf
    refine gf_X6_51 X J er dX6_assignment_98 ?_
    refine lv_iconst (v := (3 : Int32)) hx hb dX6_assignment_101 (by decide) ?_
    refine lv_iload hx hb dX6_assignment_102 (lv_at hl 0 rfl) ?_
    obtain ⟨r14, σ15, hc, hf⟩ := obd_some hf
    refine zr_callNv (As := [.int (3 : Int32), .int r9]) (rest := []) X J q13 (ho_C_X0 hq13).1 (ho_C_X0 hq13).2.1 (ho_C_X0 hq13).2.2 yy_X0_addWith mw_methodLinkNest_TinyCReader_196_TinyCCode_addWith_IIV_TinyC (d := 0) (zR_ok (by omega) (by decide)) hl.1 rfl (Nat.le_of_ble_eq_true rfl) (tX0_addWith hq13 hc) dX6_assignment_104 (fun H locs J => ?_)
    refine lv_aload_n hx hb dX6_assignment_107 rfl (lv_at hl 2 rfl) ?_
    obtain ⟨q16, hq16, er, hf⟩ := rbd_some hf
    refine gf_X6_46 X J er dX6_assignment_108 ?_
    refine lv_bipush (v := (14 : Int32)) hx hb dX6_assignment_111 (by decide) ?_
    refine lv_iload hx hb dX6_assignment_113 (lv_at hl 0 rfl) ?_
    refine lv_iload_n hx hb dX6_assignment_115 rfl (lv_at hl 1 rfl) ?_
    refine lv_iconst (v := (-1 : Int32)) hx hb dX6_assignment_116 (by decide) ?_
    obtain ⟨r17, σ18, hc, hf⟩ := obd_some hf
    refine zr_callNi (As := [.int (14 : Int32), .int r9, .int r5, .int (-1 : Int32)]) (rest := []) X J q16 (ho_C_X9 hq16).1 (ho_C_X9 hq16).2.1 (ho_C_X9 hq16).2.2 yy_X9_add mw_methodLinkNest_TinyCReader_169_TinyCTree_add_IIIII_TinyC (d := 0) (zR_ok (by omega) (by decide)) hl.1 rfl (Nat.le_of_ble_eq_true rfl) (tX9_add hq16 hc) dX6_assignment_117 (fun H locs J => ?_)
    exact zr_iret X J hf dX6_assignment_120
  · have hf := itn h hf
    refine lv_aload_n hx hb dX6_assignment_66 rfl (lv_at hl 2 rfl) ?_
    obtain ⟨q19, hq19, er, hf⟩ := rbd_some hf
    refine gf_X6_51 X J er dX6_assignment_67 ?_
    refine lv_iconst (v := (5 : Int32)) hx hb dX6_assignment_70 (by decide) ?_
    refine lv_iload hx hb dX6_assignment_71 (lv_at hl 0 rfl) ?_
    obtain ⟨r20, σ21, hc, hf⟩ := obd_some hf
    refine zr_callNv (As := [.int (5 : Int32), .int r9]) (rest := []) X J q19 (ho_C_X0 hq19).1 (ho_C_X0 hq19).2.1 (ho_C_X0 hq19).2.2 yy_X0_addWith mw_methodLinkNest_TinyCReader_196_TinyCCode_addWith_IIV_TinyC (d := 0) (zR_ok (by omega) (by decide)) hl.1 rfl (Nat.le_of_ble_eq_true rfl) (tX0_addWith hq19 hc) dX6_assignment_73 (fun H locs J => ?_)
    refine lv_aload_n hx hb dX6_assignment_76 rfl (lv_at hl 2 rfl) ?_
    obtain ⟨q22, hq22, er, hf⟩ := rbd_some hf
    refine gf_X6_46 X J er dX6_assignment_77 ?_
    refine lv_bipush (v := (15 : Int32)) hx hb dX6_assignment_80 (by decide) ?_
    refine lv_aload_n hx hb dX6_assignment_82 rfl (lv_at hl 2 rfl) ?_
    refine gf_X6_9 X J dX6_assignment_83 ?_
    refine lv_iload hx hb dX6_assignment_86 (lv_at hl 0 rfl) ?_
    obtain ⟨r23, σ24, hc, hf⟩ := obd_some hf
    refine zr_callNi (As := [.int r9]) (rest := [.int (15 : Int32), .ref (ad q22)]) X J 3 ho_C_X1.1 ho_C_X1.2.1 ho_C_X1.2.2 yy_X1_inFrame mw_methodLinkNest_TinyCReader_244_TinyCDesk_inFrame_II_TinyC (d := 0) (zR_ok (by omega) (by decide)) hl.1 rfl (Nat.le_of_ble_eq_true rfl) (tX1_inFrame  hc) dX6_assignment_88 (fun H locs J => ?_)
    refine lv_iload_n hx hb dX6_assignment_91 rfl (lv_at hl 1 rfl) ?_
    refine lv_iconst (v := (-1 : Int32)) hx hb dX6_assignment_92 (by decide) ?_
    obtain ⟨r25, σ26, hc, hf⟩ := obd_some hf
    refine zr_callNi (As := [.int (15 : Int32), .int r23, .int r5, .int (-1 : Int32)]) (rest := []) X J q22 (ho_C_X9 hq22).1 (ho_C_X9 hq22).2.1 (ho_C_X9 hq22).2.2 yy_X9_add mw_methodLinkNest_TinyCReader_169_TinyCTree_add_IIIII_TinyC (d := 0) (zR_ok (by omega) (by decide)) hl.1 rfl (Nat.le_of_ble_eq_true rfl) (tX9_add hq22 hc) dX6_assignment_93 (fun H locs J => ?_)
    exact zr_iret X J hf dX6_assignment_96
set_option maxHeartbeats 4000000 in
theorem tX6_assignment {a1_ : Int32} {a2_ : Int32}  {σ u : zSt} {r : Int32} (hf : fX6_assignment ln N M a1_ a2_ σ = some (r, u)) : zMi l yX6_assignment cX6_assignment 5 (some .int) (4 * M + 4) D cy shC ad ts ln [.ref (ad 2), .int a1_, .int a2_] σ r u := by
  refine zM_of (by decide) (Nat.le_of_ble_eq_true rfl) (fun p e s m args below meth c ls ha X J hl => ?_)
  have hx := X.1
  have hb := X.2.1
  have hl : lv_has ls 5 [(0, .ref (ad 2)), (1, .int a1_), (2, .int a2_)] := hl
  generalize s.heap = H at J ⊢
  generalize ([] : List Loc) = locs at J ⊢
  show W p l e (zRm (4 * M + 4)) s m args below meth c H locs 0 0 (zQi D cy shC ad ts ln below args s (r, u)) (F0 m 0 ls [])
  unfold fX6_assignment at hf
  refine lv_aload_n hx hb dX6_assignment_0 rfl (lv_at hl 0 rfl) ?_
  refine gf_X6_26 X J dX6_assignment_1 ?_
  refine lv_iload_n hx hb dX6_assignment_4 rfl (lv_at hl 1 rfl) ?_
  obtain ⟨r1, σ2, hc, hf⟩ := obd_some hf
  refine zr_callNi (As := [.int a1_]) (rest := []) X J 4 ho_C_X4.1 ho_C_X4.2.1 ho_C_X4.2.2 yy_X4_isValue mw_methodLinkNest_TinyCReader_283_TinyCNames_isValue_IZ_TinyC (d := 0) (zR_ok (by omega) (by decide)) hl.1 rfl (Nat.le_of_ble_eq_true rfl) (tX4_isValue  hc) dX6_assignment_5 (fun H locs J => ?_)
  refine lv_if_ne hx hb dX6_assignment_8 rfl (fun h => ?_) (fun h => ?_)
  · have hf := itn h hf
    exact bX6_assignment_20 X   J (lv_sub hl [0, 1] rfl) hf
  · have hf := itp h hf
    refine lv_aload_n hx hb dX6_assignment_11 rfl (lv_at hl 0 rfl) ?_
    refine gf_X6_21 X J dX6_assignment_12 ?_
    refine lv_iconst (v := (5 : Int32)) hx hb dX6_assignment_15 (by decide) ?_
    refine lv_iload_n hx hb dX6_assignment_16 rfl (lv_at hl 2 rfl) ?_
    obtain ⟨r27, σ28, hc, hf⟩ := obd_some hf
    refine zr_callNv (As := [.int (5 : Int32), .int a2_]) (rest := []) X J 1 ho_C_X7.1 ho_C_X7.2.1 ho_C_X7.2.2 yy_X7_fail mw_methodLinkNest_TinyCReader_121_TinyCScan_fail_IIV_TinyC (d := 0) (zR_ok (by omega) (by decide)) hl.1 rfl (Nat.le_of_ble_eq_true rfl) (tX7_fail  hc) dX6_assignment_17 (fun H locs J => ?_)
    exact bX6_assignment_20 X   J (lv_sub hl [0, 1] rfl) hf
set_option maxHeartbeats 4000000 in
theorem tX6_itemAssignment {a1_ : Int32} {a2_ : Int32}  {σ u : zSt} {r : Int32} (hf : fX6_itemAssignment ln N M a1_ a2_ σ = some (r, u)) : zMi l yX6_itemAssignment cX6_itemAssignment 8 (some .int) (4 * M + 5) D cy shC ad ts ln [.ref (ad 2), .int a1_, .int a2_] σ r u := by
  refine zM_of (by decide) (Nat.le_of_ble_eq_true rfl) (fun p e s m args below meth c ls ha X J hl => ?_)
  have hx := X.1
  have hb := X.2.1
  have hl : lv_has ls 8 [(0, .ref (ad 2)), (1, .int a1_), (2, .int a2_)] := hl
  generalize s.heap = H at J ⊢
  generalize ([] : List Loc) = locs at J ⊢
  show W p l e (zRm (4 * M + 5)) s m args below meth c H locs 0 0 (zQi D cy shC ad ts ln below args s (r, u)) (F0 m 0 ls [])
  unfold fX6_itemAssignment at hf
  refine lv_aload_n hx hb dX6_itemAssignment_0 rfl (lv_at hl 0 rfl) ?_
  refine gf_X6_32 X J dX6_itemAssignment_1 ?_
  refine lv_iload_n hx hb dX6_itemAssignment_4 rfl (lv_at hl 1 rfl) ?_
  refine lv_iload_n hx hb dX6_itemAssignment_5 rfl (lv_at hl 2 rfl) ?_
  obtain ⟨r1, σ2, hc, hf⟩ := obd_some hf
  refine zr_callNi (As := [.int a1_, .int a2_]) (rest := []) X J 5 ho_C_X2.1 ho_C_X2.2.1 ho_C_X2.2.2 yy_X2_index mw_methodLinkNest_TinyCReader_291_TinyCExpressions_index_III_TinyC (d := 4 * M + 4) (zR_ok (by omega) (by decide)) hl.1 rfl (Nat.le_of_ble_eq_true rfl) (tX2_index (dk := 4 * M + 3) (by omega) (tX2_expression ())  hc) dX6_itemAssignment_6 (fun H locs J => ?_)
  refine lv_istore_n hx hb dX6_itemAssignment_9 rfl hl (by decide) rfl (fun ls hl => ?_)
  have hl : lv_has ls 8 [(3, .int r1), (0, .ref (ad 2)), (1, .int a1_), (2, .int a2_)] := hl
  refine lv_aload_n hx hb dX6_itemAssignment_10 rfl (lv_at hl 1 rfl) ?_
  refine gf_X6_21 X J dX6_itemAssignment_11 ?_
  refine lv_bipush (v := (57 : Int32)) hx hb dX6_itemAssignment_14 (by decide) ?_
  obtain ⟨r3, σ4, hc, hf⟩ := obd_some hf
  refine zr_callNv (As := [.int (57 : Int32)]) (rest := []) X J 1 ho_C_X7.1 ho_C_X7.2.1 ho_C_X7.2.2 yy_X7_pass mw_methodLinkNest_TinyCReader_145_TinyCScan_pass_IV_TinyC (d := 2) (zR_ok (by omega) (by decide)) hl.1 rfl (Nat.le_of_ble_eq_true rfl) (tX7_pass  hc) dX6_itemAssignment_16 (fun H locs J => ?_)
  refine lv_aload_n hx hb dX6_itemAssignment_19 rfl (lv_at hl 1 rfl) ?_
  refine gf_X6_32 X J dX6_itemAssignment_20 ?_
  refine lv_bipush (v := (56 : Int32)) hx hb dX6_itemAssignment_23 (by decide) ?_
  obtain ⟨r5, σ6, hc, hf⟩ := obd_some hf
  refine zr_callNi (As := [.int (56 : Int32)]) (rest := []) X J 5 ho_C_X2.1 ho_C_X2.2.1 ho_C_X2.2.2 yy_X2_expression mw_methodLinkNest_TinyCReader_235_TinyCExpressions_expression_II_TinyC (d := 4 * M + 3) (zR_ok (by omega) (by decide)) hl.1 rfl (Nat.le_of_ble_eq_true rfl) (tX2_expression () _ _ _ _ hc) dX6_itemAssignment_25 (fun H locs J => ?_)
  refine lv_istore hx hb dX6_itemAssignment_28 hl (by decide) rfl (fun ls hl => ?_)
  have hl : lv_has ls 8 [(4, .int r5), (3, .int r1), (0, .ref (ad 2)), (1, .int a1_), (2, .int a2_)] := hl
  refine lv_aload_n hx hb dX6_itemAssignment_30 rfl (lv_at hl 2 rfl) ?_
  refine gf_X6_21 X J dX6_itemAssignment_31 ?_
  obtain ⟨r7, σ8, hc, hf⟩ := obd_some hf
  refine zr_callNv (As := []) (rest := []) X J 1 ho_C_X7.1 ho_C_X7.2.1 ho_C_X7.2.2 yy_X7_come mw_methodLinkNest_TinyCReader_81_TinyCScan_come_V_TinyC (d := 1) (zR_ok (by omega) (by decide)) hl.1 rfl (Nat.le_of_ble_eq_true rfl) (tX7_come  hc) dX6_itemAssignment_34 (fun H locs J => ?_)
  refine lv_aload_n hx hb dX6_itemAssignment_37 rfl (lv_at hl 2 rfl) ?_
  refine gf_X6_26 X J dX6_itemAssignment_38 ?_
  refine lv_iload_n hx hb dX6_itemAssignment_41 rfl (lv_at hl 3 rfl) ?_
  obtain ⟨r9, σ10, hc, hf⟩ := obd_some hf
  refine zr_callNi (As := [.int a1_]) (rest := []) X J 4 ho_C_X4.1 ho_C_X4.2.1 ho_C_X4.2.2 yy_X4_placeOf mw_methodLinkNest_TinyCReader_204_TinyCNames_placeOf_II_TinyC (d := 0) (zR_ok (by omega) (by decide)) hl.1 rfl (Nat.le_of_ble_eq_true rfl) (tX4_placeOf  hc) dX6_itemAssignment_42 (fun H locs J => ?_)
  refine lv_istore hx hb dX6_itemAssignment_45 hl (by decide) rfl (fun ls hl => ?_)
  have hl : lv_has ls 8 [(5, .int r9), (4, .int r5), (3, .int r1), (0, .ref (ad 2)), (1, .int a1_), (2, .int a2_)] := hl
  refine lv_aload_n hx hb dX6_itemAssignment_47 rfl (lv_at hl 3 rfl) ?_
  refine gf_X6_26 X J dX6_itemAssignment_48 ?_
  refine lv_iload_n hx hb dX6_itemAssignment_51 rfl (lv_at hl 4 rfl) ?_
  obtain ⟨r11, σ12, hc, hf⟩ := obd_some hf
  refine zr_callNi (As := [.int a1_]) (rest := []) X J 4 ho_C_X4.1 ho_C_X4.2.1 ho_C_X4.2.2 yy_X4_countOf mw_methodLinkNest_TinyCReader_294_TinyCNames_countOf_II_TinyC (d := 0) (zR_ok (by omega) (by decide)) hl.1 rfl (Nat.le_of_ble_eq_true rfl) (tX4_countOf  hc) dX6_itemAssignment_52 (fun H locs J => ?_)
  refine lv_istore hx hb dX6_itemAssignment_55 hl (by decide) rfl (fun ls hl => ?_)
  have hl : lv_has ls 8 [(6, .int r11), (5, .int r9), (4, .int r5), (3, .int r1), (0, .ref (ad 2)), (1, .int a1_), (2, .int a2_)] := hl
  refine lv_aload_n hx hb dX6_itemAssignment_57 rfl (lv_at hl 4 rfl) ?_
  obtain ⟨q13, hq13, er, hf⟩ := rbd_some hf
  refine gf_X6_51 X J er dX6_itemAssignment_58 ?_
  refine lv_bipush (v := (7 : Int32)) hx hb dX6_itemAssignment_61 (by decide) ?_
  refine lv_iload hx hb dX6_itemAssignment_63 (lv_at hl 1 rfl) ?_
  refine lv_iload hx hb dX6_itemAssignment_65 (lv_at hl 0 rfl) ?_
  obtain ⟨r14, σ15, hc, hf⟩ := obd_some hf
  refine zr_callNv (As := [.int (7 : Int32), .int r9, .int r11]) (rest := []) X J q13 (ho_C_X0 hq13).1 (ho_C_X0 hq13).2.1 (ho_C_X0 hq13).2.2 yy_X0_addWithTwo mw_methodLinkNest_TinyCReader_64_TinyCCode_addWithTwo_IIIV_TinyC (d := 0) (zR_ok (by omega) (by decide)) hl.1 rfl (Nat.le_of_ble_eq_true rfl) (tX0_addWithTwo hq13 hc) dX6_itemAssignment_67 (fun H locs J => ?_)
  refine lv_aload_n hx hb dX6_itemAssignment_70 rfl (lv_at hl 4 rfl) ?_
  obtain ⟨q16, hq16, er, hf⟩ := rbd_some hf
  refine gf_X6_46 X J er dX6_itemAssignment_71 ?_
  refine lv_bipush (v := (16 : Int32)) hx hb dX6_itemAssignment_74 (by decide) ?_
  refine lv_iload hx hb dX6_itemAssignment_76 (lv_at hl 1 rfl) ?_
  refine lv_iconst (v := (-1 : Int32)) hx hb dX6_itemAssignment_78 (by decide) ?_
  refine lv_iconst (v := (-1 : Int32)) hx hb dX6_itemAssignment_79 (by decide) ?_
  obtain ⟨r17, σ18, hc, hf⟩ := obd_some hf
  refine zr_callNi (As := [.int (16 : Int32), .int r9, .int (-1 : Int32), .int (-1 : Int32)]) (rest := []) X J q16 (ho_C_X9 hq16).1 (ho_C_X9 hq16).2.1 (ho_C_X9 hq16).2.2 yy_X9_add mw_methodLinkNest_TinyCReader_169_TinyCTree_add_IIIII_TinyC (d := 0) (zR_ok (by omega) (by decide)) hl.1 rfl (Nat.le_of_ble_eq_true rfl) (tX9_add hq16 hc) dX6_itemAssignment_80 (fun H locs J => ?_)
  refine lv_istore hx hb dX6_itemAssignment_83 hl (by decide) rfl (fun ls hl => ?_)
  have hl : lv_has ls 8 [(7, .int r17), (6, .int r11), (5, .int r9), (4, .int r5), (3, .int r1), (0, .ref (ad 2)), (1, .int a1_), (2, .int a2_)] := hl
  refine lv_aload_n hx hb dX6_itemAssignment_85 rfl (lv_at hl 5 rfl) ?_
  obtain ⟨q19, hq19, er, hf⟩ := rbd_some hf
  refine gf_X6_46 X J er dX6_itemAssignment_86 ?_
  refine lv_iload hx hb dX6_itemAssignment_89 (lv_at hl 0 rfl) ?_
  refine lv_iload_n hx hb dX6_itemAssignment_91 rfl (lv_at hl 4 rfl) ?_
  refine lv_iload hx hb dX6_itemAssignment_92 (lv_at hl 1 rfl) ?_
  refine lv_iload hx hb dX6_itemAssignment_94 (lv_at hl 3 rfl) ?_
  obtain ⟨r20, σ21, hc, hf⟩ := obd_some hf
  refine zr_callNv (As := [.int r17, .int r1, .int r11, .int r5]) (rest := []) X J q19 (ho_C_X9 hq19).1 (ho_C_X9 hq19).2.1 (ho_C_X9 hq19).2.2 yy_X9_setParts mw_methodLinkNest_TinyCReader_210_TinyCTree_setParts_IIIIV_TinyC (d := 0) (zR_ok (by omega) (by decide)) hl.1 rfl (Nat.le_of_ble_eq_true rfl) (tX9_setParts hq19 hc) dX6_itemAssignment_96 (fun H locs J => ?_)
  refine lv_iload hx hb dX6_itemAssignment_99 (lv_at hl 0 rfl) ?_
  exact zr_iret X J hf dX6_itemAssignment_101
set_option maxHeartbeats 4000000 in
theorem tX6_callAlone {a1_ : Int32} {a2_ : Int32}  {σ u : zSt} {r : Int32} (hf : fX6_callAlone ln N M a1_ a2_ σ = some (r, u)) : zMi l yX6_callAlone cX6_callAlone 4 (some .int) (4 * M + 5) D cy shC ad ts ln [.ref (ad 2), .int a1_, .int a2_] σ r u := by
  refine zM_of (by decide) (Nat.le_of_ble_eq_true rfl) (fun p e s m args below meth c ls ha X J hl => ?_)
  have hx := X.1
  have hb := X.2.1
  have hl : lv_has ls 4 [(0, .ref (ad 2)), (1, .int a1_), (2, .int a2_)] := hl
  generalize s.heap = H at J ⊢
  generalize ([] : List Loc) = locs at J ⊢
  show W p l e (zRm (4 * M + 5)) s m args below meth c H locs 0 0 (zQi D cy shC ad ts ln below args s (r, u)) (F0 m 0 ls [])
  unfold fX6_callAlone at hf
  refine lv_aload_n hx hb dX6_callAlone_0 rfl (lv_at hl 0 rfl) ?_
  refine gf_X6_32 X J dX6_callAlone_1 ?_
  refine lv_iload_n hx hb dX6_callAlone_4 rfl (lv_at hl 1 rfl) ?_
  refine lv_iload_n hx hb dX6_callAlone_5 rfl (lv_at hl 2 rfl) ?_
  obtain ⟨r1, σ2, hc, hf⟩ := obd_some hf
  refine zr_callNi (As := [.int a1_, .int a2_]) (rest := []) X J 5 ho_C_X2.1 ho_C_X2.2.1 ho_C_X2.2.2 yy_X2_call mw_methodLinkNest_TinyCReader_280_TinyCExpressions_call_III_TinyC (d := 4 * M + 4) (zR_ok (by omega) (by decide)) hl.1 rfl (Nat.le_of_ble_eq_true rfl) (tX2_call (dk := 4 * M + 3) (by omega) (tX2_expression ())  hc) dX6_callAlone_6 (fun H locs J => ?_)
  refine lv_istore_n hx hb dX6_callAlone_9 rfl hl (by decide) rfl (fun ls hl => ?_)
  have hl : lv_has ls 4 [(3, .int r1), (0, .ref (ad 2)), (1, .int a1_), (2, .int a2_)] := hl
  refine lv_aload_n hx hb dX6_callAlone_10 rfl (lv_at hl 1 rfl) ?_
  refine gf_X6_21 X J dX6_callAlone_11 ?_
  refine lv_bipush (v := (56 : Int32)) hx hb dX6_callAlone_14 (by decide) ?_
  obtain ⟨r3, σ4, hc, hf⟩ := obd_some hf
  refine zr_callNv (As := [.int (56 : Int32)]) (rest := []) X J 1 ho_C_X7.1 ho_C_X7.2.1 ho_C_X7.2.2 yy_X7_pass mw_methodLinkNest_TinyCReader_145_TinyCScan_pass_IV_TinyC (d := 2) (zR_ok (by omega) (by decide)) hl.1 rfl (Nat.le_of_ble_eq_true rfl) (tX7_pass  hc) dX6_callAlone_16 (fun H locs J => ?_)
  refine lv_aload_n hx hb dX6_callAlone_19 rfl (lv_at hl 1 rfl) ?_
  obtain ⟨q5, hq5, er, hf⟩ := rbd_some hf
  refine gf_X6_51 X J er dX6_callAlone_20 ?_
  refine lv_bipush (v := (36 : Int32)) hx hb dX6_callAlone_23 (by decide) ?_
  obtain ⟨r6, σ7, hc, hf⟩ := obd_some hf
  refine zr_callNv (As := [.int (36 : Int32)]) (rest := []) X J q5 (ho_C_X0 hq5).1 (ho_C_X0 hq5).2.1 (ho_C_X0 hq5).2.2 yy_X0_add mw_methodLinkNest_TinyCReader_70_TinyCCode_add_IV_TinyC (d := 0) (zR_ok (by omega) (by decide)) hl.1 rfl (Nat.le_of_ble_eq_true rfl) (tX0_add hq5 hc) dX6_callAlone_25 (fun H locs J => ?_)
  refine lv_aload_n hx hb dX6_callAlone_28 rfl (lv_at hl 1 rfl) ?_
  obtain ⟨q8, hq8, er, hf⟩ := rbd_some hf
  refine gf_X6_46 X J er dX6_callAlone_29 ?_
  refine lv_bipush (v := (17 : Int32)) hx hb dX6_callAlone_32 (by decide) ?_
  refine lv_iconst (v := (0 : Int32)) hx hb dX6_callAlone_34 (by decide) ?_
  refine lv_iload_n hx hb dX6_callAlone_35 rfl (lv_at hl 0 rfl) ?_
  refine lv_iconst (v := (-1 : Int32)) hx hb dX6_callAlone_36 (by decide) ?_
  obtain ⟨r9, σ10, hc, hf⟩ := obd_some hf
  refine zr_callNi (As := [.int (17 : Int32), .int (0 : Int32), .int r1, .int (-1 : Int32)]) (rest := []) X J q8 (ho_C_X9 hq8).1 (ho_C_X9 hq8).2.1 (ho_C_X9 hq8).2.2 yy_X9_add mw_methodLinkNest_TinyCReader_169_TinyCTree_add_IIIII_TinyC (d := 0) (zR_ok (by omega) (by decide)) hl.1 rfl (Nat.le_of_ble_eq_true rfl) (tX9_add hq8 hc) dX6_callAlone_37 (fun H locs J => ?_)
  exact zr_iret X J hf dX6_callAlone_40
set_option maxHeartbeats 4000000 in
theorem tX6_misplaced   {σ u : zSt} {r : Int32} (hf : fX6_misplaced ln N M  σ = some (r, u)) : zMi l yX6_misplaced cX6_misplaced 1 (some .int) (1) D cy shC ad ts ln [.ref (ad 2)] σ r u := by
  refine zM_of (by decide) (Nat.le_of_ble_eq_true rfl) (fun p e s m args below meth c ls ha X J hl => ?_)
  have hx := X.1
  have hb := X.2.1
  have hl : lv_has ls 1 [(0, .ref (ad 2))] := hl
  generalize s.heap = H at J ⊢
  generalize ([] : List Loc) = locs at J ⊢
  show W p l e (zRm (1)) s m args below meth c H locs 0 0 (zQi D cy shC ad ts ln below args s (r, u)) (F0 m 0 ls [])
  unfold fX6_misplaced at hf
  refine lv_aload_n hx hb dX6_misplaced_0 rfl (lv_at hl 0 rfl) ?_
  refine gf_X6_21 X J dX6_misplaced_1 ?_
  refine lv_iconst (v := (2 : Int32)) hx hb dX6_misplaced_4 (by decide) ?_
  obtain ⟨r1, σ2, hc, hf⟩ := obd_some hf
  refine zr_callNv (As := [.int (2 : Int32)]) (rest := []) X J 1 ho_C_X7.1 ho_C_X7.2.1 ho_C_X7.2.2 yy_X7_failHere mw_methodLinkNest_TinyCReader_133_TinyCScan_failHere_IV_TinyC (d := 0) (zR_ok (by omega) (by decide)) hl.1 rfl (Nat.le_of_ble_eq_true rfl) (tX7_failHere  hc) dX6_misplaced_5 (fun H locs J => ?_)
  refine lv_iconst (v := (-1 : Int32)) hx hb dX6_misplaced_8 (by decide) ?_
  exact zr_iret X J hf dX6_misplaced_9
set_option maxHeartbeats 4000000 in
theorem tX6_statementB {K : zSt → Option (Int32 × zSt)} {dk : Nat} (hdk : 4 * M + 6 ≤ dk) (hK : ∀  (σ u : zSt) (r : Int32), K  σ = some (r, u) → zMi l yX6_statement cX6_statement 3 (some .int) dk D cy shC ad ts ln [.ref (ad 2)] σ r u)   {σ u : zSt} {r : Int32} (hf : fX6_statementB ln N M K  σ = some (r, u)) : zMi l yX6_statement cX6_statement 3 (some .int) (dk + 2) D cy shC ad ts ln [.ref (ad 2)] σ r u := by
  refine zM_of (by decide) (Nat.le_of_ble_eq_true rfl) (fun p e s m args below meth c ls ha X J hl => ?_)
  have hx := X.1
  have hb := X.2.1
  have hl : lv_has ls 3 [(0, .ref (ad 2))] := hl
  generalize s.heap = H at J ⊢
  generalize ([] : List Loc) = locs at J ⊢
  show W p l e (zRm (dk + 2)) s m args below meth c H locs 0 0 (zQi D cy shC ad ts ln below args s (r, u)) (F0 m 0 ls [])
  unfold fX6_statementB at hf
  refine lv_aload_n hx hb dX6_statement_0 rfl (lv_at hl 0 rfl) ?_
  refine gf_X6_21 X J dX6_statement_1 ?_
  refine gf_X6_78 X J dX6_statement_4 ?_
  refine lv_topi (fun x1 eq => ?_)
  have hf := bnd_eq eq hf
  clear eq
  by_cases h0_ : x1 = (40 : Int32)
  · have hf := itp h0_ hf
    rw [h0_]
    refine lv_tableIn hx hb dX6_statement_7 (by decide) (by decide) (tgt := 150) (by rfl) (by decide) ?_
    refine lv_aload_n hx hb dX6_statement_150 rfl (lv_at hl 0 rfl) ?_
    refine gf_X6_21 X J dX6_statement_151 ?_
    refine gf_X6_84 X J dX6_statement_154 ?_
    refine lv_topi (fun x2 eq => ?_)
    have hf := bnd_eq eq hf
    clear eq
    refine lv_istore_n hx hb dX6_statement_157 rfl hl (by decide) rfl (fun ls hl => ?_)
    have hl : lv_has ls 3 [(1, .int x2), (0, .ref (ad 2))] := hl
    refine lv_aload_n hx hb dX6_statement_158 rfl (lv_at hl 1 rfl) ?_
    obtain ⟨r3, σ4, hc, hf⟩ := obd_some hf
    refine zr_calli (As := []) (rest := []) X J 2 ho_C_X6.1 ho_C_X6.2.1 ho_C_X6.2.2 yy_X6_startName mw_methodLink_TinyCReader_262_TinyCReader_startName_I (d := 2) (zR_ok (by omega) (by decide)) hl.1 rfl (Nat.le_of_ble_eq_true rfl) (tX6_startName  hc) dX6_statement_159 (fun H locs J => ?_)
    refine lv_istore_n hx hb dX6_statement_162 rfl hl (by decide) rfl (fun ls hl => ?_)
    have hl : lv_has ls 3 [(2, .int r3), (1, .int x2), (0, .ref (ad 2))] := hl
    refine lv_aload_n hx hb dX6_statement_163 rfl (lv_at hl 2 rfl) ?_
    refine gf_X6_21 X J dX6_statement_164 ?_
    refine gf_X6_78 X J dX6_statement_167 ?_
    refine lv_topi (fun x5 eq => ?_)
    have hf := bnd_eq eq hf
    clear eq
    by_cases h0_ : x5 = (49 : Int32)
    · have hf := itp h0_ hf
      rw [h0_]
      refine lv_lookup hx hb dX6_statement_170 (by decide) (tgt := 218) (by rfl) (by decide) ?_
      refine lv_aload_n hx hb dX6_statement_218 rfl (lv_at hl 2 rfl) ?_
      refine lv_iload_n hx hb dX6_statement_219 rfl (lv_at hl 0 rfl) ?_
      refine lv_iload_n hx hb dX6_statement_220 rfl (lv_at hl 1 rfl) ?_
      obtain ⟨r6, σ7, hc, hf⟩ := obd_some hf
      refine zr_calli (As := [.int r3, .int x2]) (rest := []) X J 2 ho_C_X6.1 ho_C_X6.2.1 ho_C_X6.2.2 yy_X6_callAlone mw_methodLink_TinyCReader_271_TinyCReader_callAlone_III (d := 4 * M + 5) (zR_ok (by omega) (by decide)) hl.1 rfl (Nat.le_of_ble_eq_true rfl) (tX6_callAlone  hc) dX6_statement_221 (fun H locs J => ?_)
      exact zr_iret X J hf dX6_statement_224
    have hf := itn h0_ hf
    by_cases h1_ : x5 = (53 : Int32)
    · have hf := itp h1_ hf
      rw [h1_]
      refine lv_lookup hx hb dX6_statement_170 (by decide) (tgt := 211) (by rfl) (by decide) ?_
      refine lv_aload_n hx hb dX6_statement_211 rfl (lv_at hl 2 rfl) ?_
      refine lv_iload_n hx hb dX6_statement_212 rfl (lv_at hl 0 rfl) ?_
      refine lv_iload_n hx hb dX6_statement_213 rfl (lv_at hl 1 rfl) ?_
      obtain ⟨r8, σ9, hc, hf⟩ := obd_some hf
      refine zr_calli (As := [.int r3, .int x2]) (rest := []) X J 2 ho_C_X6.1 ho_C_X6.2.1 ho_C_X6.2.2 yy_X6_itemAssignment mw_methodLink_TinyCReader_268_TinyCReader_itemAssignment_III (d := 4 * M + 5) (zR_ok (by omega) (by decide)) hl.1 rfl (Nat.le_of_ble_eq_true rfl) (tX6_itemAssignment  hc) dX6_statement_214 (fun H locs J => ?_)
      exact zr_iret X J hf dX6_statement_217
    have hf := itn h1_ hf
    by_cases h2_ : x5 = (57 : Int32)
    · have hf := itp h2_ hf
      rw [h2_]
      refine lv_lookup hx hb dX6_statement_170 (by decide) (tgt := 204) (by rfl) (by decide) ?_
      refine lv_aload_n hx hb dX6_statement_204 rfl (lv_at hl 2 rfl) ?_
      refine lv_iload_n hx hb dX6_statement_205 rfl (lv_at hl 0 rfl) ?_
      refine lv_iload_n hx hb dX6_statement_206 rfl (lv_at hl 1 rfl) ?_
      obtain ⟨r10, σ11, hc, hf⟩ := obd_some hf
      refine zr_calli (As := [.int r3, .int x2]) (rest := []) X J 2 ho_C_X6.1 ho_C_X6.2.1 ho_C_X6.2.2 yy_X6_assignment mw_methodLink_TinyCReader_265_TinyCReader_assignment_III (d := 4 * M + 4) (zR_ok (by omega) (by decide)) hl.1 rfl (Nat.le_of_ble_eq_true rfl) (tX6_assignment  hc) dX6_statement_207 (fun H locs J => ?_)
      exact zr_iret X J hf dX6_statement_210
    have hf := itn h2_ hf
    refine lv_lookup hx hb dX6_statement_170 (by decide) (off := 55) (tgt := 225) (by simp only []; rw [lv_osw h0_ (by decide), lv_osw h1_ (by decide), lv_osw h2_ (by decide)] <;> rfl) (by decide) ?_
    refine lv_aload_n hx hb dX6_statement_225 rfl (lv_at hl 2 rfl) ?_
    obtain ⟨r12, σ13, hc, hf⟩ := obd_some hf
    refine zr_calli (As := []) (rest := []) X J 2 ho_C_X6.1 ho_C_X6.2.1 ho_C_X6.2.2 yy_X6_misplaced mw_methodLink_TinyCReader_274_TinyCReader_misplaced_I (d := 1) (zR_ok (by omega) (by decide)) hl.1 rfl (Nat.le_of_ble_eq_true rfl) (tX6_misplaced  hc) dX6_statement_226 (fun H locs J => ?_)
    exact zr_iret X J hf dX6_statement_229
  have hf := itn h0_ hf
  by_cases h1_ : x1 = (41 : Int32)
  · have hf := itp h1_ hf
    rw [h1_]
    refine lv_tableIn hx hb dX6_statement_7 (by decide) (by decide) (tgt := 230) (by rfl) (by decide) ?_
    refine lv_aload_n hx hb dX6_statement_230 rfl (lv_at hl 0 rfl) ?_
    obtain ⟨r14, σ15, hc, hf⟩ := obd_some hf
    refine zr_calli (As := []) (rest := []) X J 2 ho_C_X6.1 ho_C_X6.2.1 ho_C_X6.2.2 yy_X6_misplaced mw_methodLink_TinyCReader_274_TinyCReader_misplaced_I (d := 1) (zR_ok (by omega) (by decide)) hl.1 rfl (Nat.le_of_ble_eq_true rfl) (tX6_misplaced  hc) dX6_statement_231 (fun H locs J => ?_)
    exact zr_iret X J hf dX6_statement_234
  have hf := itn h1_ hf
  by_cases h2_ : x1 = (42 : Int32)
  · have hf := itp h2_ hf
    rw [h2_]
    refine lv_tableIn hx hb dX6_statement_7 (by decide) (by decide) (tgt := 230) (by rfl) (by decide) ?_
    refine lv_aload_n hx hb dX6_statement_230 rfl (lv_at hl 0 rfl) ?_
    obtain ⟨r16, σ17, hc, hf⟩ := obd_some hf
    refine zr_calli (As := []) (rest := []) X J 2 ho_C_X6.1 ho_C_X6.2.1 ho_C_X6.2.2 yy_X6_misplaced mw_methodLink_TinyCReader_274_TinyCReader_misplaced_I (d := 1) (zR_ok (by omega) (by decide)) hl.1 rfl (Nat.le_of_ble_eq_true rfl) (tX6_misplaced  hc) dX6_statement_231 (fun H locs J => ?_)
    exact zr_iret X J hf dX6_statement_234
  have hf := itn h2_ hf
  by_cases h3_ : x1 = (43 : Int32)
  · have hf := itp h3_ hf
    rw [h3_]
    refine lv_tableIn hx hb dX6_statement_7 (by decide) (by decide) (tgt := 125) (by rfl) (by decide) ?_
    refine lv_aload_n hx hb dX6_statement_125 rfl (lv_at hl 0 rfl) ?_
    obtain ⟨r18, σ19, hc, hf⟩ := obd_some hf
    refine zr_calli (As := []) (rest := []) X J 2 ho_C_X6.1 ho_C_X6.2.1 ho_C_X6.2.2 yy_X6_choice mw_methodLink_TinyCReader_247_TinyCReader_choice_I (d := dk + 1) (zR_ok (by omega) (by decide)) hl.1 rfl (Nat.le_of_ble_eq_true rfl) (tX6_choice hdk hK  hc) dX6_statement_126 (fun H locs J => ?_)
    exact zr_iret X J hf dX6_statement_129
  have hf := itn h3_ hf
  by_cases h4_ : x1 = (44 : Int32)
  · have hf := itp h4_ hf
    rw [h4_]
    refine lv_tableIn hx hb dX6_statement_7 (by decide) (by decide) (tgt := 230) (by rfl) (by decide) ?_
    refine lv_aload_n hx hb dX6_statement_230 rfl (lv_at hl 0 rfl) ?_
    obtain ⟨r20, σ21, hc, hf⟩ := obd_some hf
    refine zr_calli (As := []) (rest := []) X J 2 ho_C_X6.1 ho_C_X6.2.1 ho_C_X6.2.2 yy_X6_misplaced mw_methodLink_TinyCReader_274_TinyCReader_misplaced_I (d := 1) (zR_ok (by omega) (by decide)) hl.1 rfl (Nat.le_of_ble_eq_true rfl) (tX6_misplaced  hc) dX6_statement_231 (fun H locs J => ?_)
    exact zr_iret X J hf dX6_statement_234
  have hf := itn h4_ hf
  by_cases h5_ : x1 = (45 : Int32)
  · have hf := itp h5_ hf
    rw [h5_]
    refine lv_tableIn hx hb dX6_statement_7 (by decide) (by decide) (tgt := 130) (by rfl) (by decide) ?_
    refine lv_aload_n hx hb dX6_statement_130 rfl (lv_at hl 0 rfl) ?_
    obtain ⟨r22, σ23, hc, hf⟩ := obd_some hf
    refine zr_calli (As := []) (rest := []) X J 2 ho_C_X6.1 ho_C_X6.2.1 ho_C_X6.2.2 yy_X6_loop mw_methodLink_TinyCReader_250_TinyCReader_loop_I (d := dk + 1) (zR_ok (by omega) (by decide)) hl.1 rfl (Nat.le_of_ble_eq_true rfl) (tX6_loop hdk hK  hc) dX6_statement_131 (fun H locs J => ?_)
    exact zr_iret X J hf dX6_statement_134
  have hf := itn h5_ hf
  by_cases h6_ : x1 = (46 : Int32)
  · have hf := itp h6_ hf
    rw [h6_]
    refine lv_tableIn hx hb dX6_statement_7 (by decide) (by decide) (tgt := 135) (by rfl) (by decide) ?_
    refine lv_aload_n hx hb dX6_statement_135 rfl (lv_at hl 0 rfl) ?_
    obtain ⟨r24, σ25, hc, hf⟩ := obd_some hf
    refine zr_calli (As := []) (rest := []) X J 2 ho_C_X6.1 ho_C_X6.2.1 ho_C_X6.2.2 yy_X6_returning mw_methodLink_TinyCReader_253_TinyCReader_returning_I (d := 4 * M + 4) (zR_ok (by omega) (by decide)) hl.1 rfl (Nat.le_of_ble_eq_true rfl) (tX6_returning  hc) dX6_statement_136 (fun H locs J => ?_)
    exact zr_iret X J hf dX6_statement_139
  have hf := itn h6_ hf
  by_cases h7_ : x1 = (47 : Int32)
  · have hf := itp h7_ hf
    rw [h7_]
    refine lv_tableIn hx hb dX6_statement_7 (by decide) (by decide) (tgt := 140) (by rfl) (by decide) ?_
    refine lv_aload_n hx hb dX6_statement_140 rfl (lv_at hl 0 rfl) ?_
    obtain ⟨r26, σ27, hc, hf⟩ := obd_some hf
    refine zr_calli (As := []) (rest := []) X J 2 ho_C_X6.1 ho_C_X6.2.1 ho_C_X6.2.2 yy_X6_printing mw_methodLink_TinyCReader_256_TinyCReader_printing_I (d := 4 * M + 5) (zR_ok (by omega) (by decide)) hl.1 rfl (Nat.le_of_ble_eq_true rfl) (tX6_printing  hc) dX6_statement_141 (fun H locs J => ?_)
    exact zr_iret X J hf dX6_statement_144
  have hf := itn h7_ hf
  by_cases h8_ : x1 = (48 : Int32)
  · have hf := itp h8_ hf
    rw [h8_]
    refine lv_tableIn hx hb dX6_statement_7 (by decide) (by decide) (tgt := 230) (by rfl) (by decide) ?_
    refine lv_aload_n hx hb dX6_statement_230 rfl (lv_at hl 0 rfl) ?_
    obtain ⟨r28, σ29, hc, hf⟩ := obd_some hf
    refine zr_calli (As := []) (rest := []) X J 2 ho_C_X6.1 ho_C_X6.2.1 ho_C_X6.2.2 yy_X6_misplaced mw_methodLink_TinyCReader_274_TinyCReader_misplaced_I (d := 1) (zR_ok (by omega) (by decide)) hl.1 rfl (Nat.le_of_ble_eq_true rfl) (tX6_misplaced  hc) dX6_statement_231 (fun H locs J => ?_)
    exact zr_iret X J hf dX6_statement_234
  have hf := itn h8_ hf
  by_cases h9_ : x1 = (49 : Int32)
  · have hf := itp h9_ hf
    rw [h9_]
    refine lv_tableIn hx hb dX6_statement_7 (by decide) (by decide) (tgt := 230) (by rfl) (by decide) ?_
    refine lv_aload_n hx hb dX6_statement_230 rfl (lv_at hl 0 rfl) ?_
    obtain ⟨r30, σ31, hc, hf⟩ := obd_some hf
    refine zr_calli (As := []) (rest := []) X J 2 ho_C_X6.1 ho_C_X6.2.1 ho_C_X6.2.2 yy_X6_misplaced mw_methodLink_TinyCReader_274_TinyCReader_misplaced_I (d := 1) (zR_ok (by omega) (by decide)) hl.1 rfl (Nat.le_of_ble_eq_true rfl) (tX6_misplaced  hc) dX6_statement_231 (fun H locs J => ?_)
    exact zr_iret X J hf dX6_statement_234
  have hf := itn h9_ hf
  by_cases h10_ : x1 = (50 : Int32)
  · have hf := itp h10_ hf
    rw [h10_]
    refine lv_tableIn hx hb dX6_statement_7 (by decide) (by decide) (tgt := 230) (by rfl) (by decide) ?_
    refine lv_aload_n hx hb dX6_statement_230 rfl (lv_at hl 0 rfl) ?_
    obtain ⟨r32, σ33, hc, hf⟩ := obd_some hf
    refine zr_calli (As := []) (rest := []) X J 2 ho_C_X6.1 ho_C_X6.2.1 ho_C_X6.2.2 yy_X6_misplaced mw_methodLink_TinyCReader_274_TinyCReader_misplaced_I (d := 1) (zR_ok (by omega) (by decide)) hl.1 rfl (Nat.le_of_ble_eq_true rfl) (tX6_misplaced  hc) dX6_statement_231 (fun H locs J => ?_)
    exact zr_iret X J hf dX6_statement_234
  have hf := itn h10_ hf
  by_cases h11_ : x1 = (51 : Int32)
  · have hf := itp h11_ hf
    rw [h11_]
    refine lv_tableIn hx hb dX6_statement_7 (by decide) (by decide) (tgt := 88) (by rfl) (by decide) ?_
    refine lv_aload_n hx hb dX6_statement_88 rfl (lv_at hl 0 rfl) ?_
    refine gf_X6_9 X J dX6_statement_89 ?_
    obtain ⟨r34, σ35, hc, hf⟩ := obd_some hf
    refine zr_callNv (As := []) (rest := []) X J 3 ho_C_X1.1 ho_C_X1.2.1 ho_C_X1.2.2 yy_X1_enter mw_methodLinkNest_TinyCReader_199_TinyCDesk_enter_V_TinyC (d := 1) (zR_ok (by omega) (by decide)) hl.1 rfl (Nat.le_of_ble_eq_true rfl) (tX1_enter  hc) dX6_statement_92 (fun H locs J => ?_)
    refine lv_aload_n hx hb dX6_statement_95 rfl (lv_at hl 0 rfl) ?_
    refine gf_X6_9 X J dX6_statement_96 ?_
    refine lv_aload_n hx hb dX6_statement_99 rfl (lv_at hl 0 rfl) ?_
    refine gf_X6_21 X J dX6_statement_100 ?_
    refine gf_X6_84 X J dX6_statement_103 ?_
    obtain ⟨r36, σ37, hc, hf⟩ := obd_some hf
    refine zr_callNv (As := [.int (zI σ35 1 4)]) (rest := []) X J 3 ho_C_X1.1 ho_C_X1.2.1 ho_C_X1.2.2 yy_X1_takeCells mw_methodLinkNest_TinyCReader_159_TinyCDesk_takeCells_IV_TinyC (d := 1) (zR_ok (by omega) (by decide)) hl.1 rfl (Nat.le_of_ble_eq_true rfl) (tX1_takeCells  hc) dX6_statement_106 (fun H locs J => ?_)
    refine lv_aload_n hx hb dX6_statement_109 rfl (lv_at hl 0 rfl) ?_
    obtain ⟨q38, hq38, er, hf⟩ := rbd_some hf
    refine gf_X6_46 X J er dX6_statement_110 ?_
    refine lv_bipush (v := (9 : Int32)) hx hb dX6_statement_113 (by decide) ?_
    refine lv_iconst (v := (0 : Int32)) hx hb dX6_statement_115 (by decide) ?_
    refine lv_aload_n hx hb dX6_statement_116 rfl (lv_at hl 0 rfl) ?_
    obtain ⟨r39, σ40, hc, hf⟩ := obd_some hf
    refine zr_calli (As := []) (rest := [.int (0 : Int32), .int (9 : Int32), .ref (ad q38)]) X J 2 ho_C_X6.1 ho_C_X6.2.1 ho_C_X6.2.2 yy_X6_block mw_methodLink_TinyCReader_98_TinyCReader_block_I (d := dk + 1) (zR_ok (by omega) (by decide)) hl.1 rfl (Nat.le_of_ble_eq_true rfl) (tX6_block hdk hK  hc) dX6_statement_117 (fun H locs J => ?_)
    refine lv_iconst (v := (-1 : Int32)) hx hb dX6_statement_120 (by decide) ?_
    obtain ⟨r41, σ42, hc, hf⟩ := obd_some hf
    refine zr_callNi (As := [.int (9 : Int32), .int (0 : Int32), .int r39, .int (-1 : Int32)]) (rest := []) X J q38 (ho_C_X9 hq38).1 (ho_C_X9 hq38).2.1 (ho_C_X9 hq38).2.2 yy_X9_add mw_methodLinkNest_TinyCReader_169_TinyCTree_add_IIIII_TinyC (d := 0) (zR_ok (by omega) (by decide)) hl.1 rfl (Nat.le_of_ble_eq_true rfl) (tX9_add hq38 hc) dX6_statement_121 (fun H locs J => ?_)
    exact zr_iret X J hf dX6_statement_124
  have hf := itn h11_ hf
  by_cases h12_ : x1 = (52 : Int32)
  · have hf := itp h12_ hf
    rw [h12_]
    refine lv_tableIn hx hb dX6_statement_7 (by decide) (by decide) (tgt := 230) (by rfl) (by decide) ?_
    refine lv_aload_n hx hb dX6_statement_230 rfl (lv_at hl 0 rfl) ?_
    obtain ⟨r43, σ44, hc, hf⟩ := obd_some hf
    refine zr_calli (As := []) (rest := []) X J 2 ho_C_X6.1 ho_C_X6.2.1 ho_C_X6.2.2 yy_X6_misplaced mw_methodLink_TinyCReader_274_TinyCReader_misplaced_I (d := 1) (zR_ok (by omega) (by decide)) hl.1 rfl (Nat.le_of_ble_eq_true rfl) (tX6_misplaced  hc) dX6_statement_231 (fun H locs J => ?_)
    exact zr_iret X J hf dX6_statement_234
  have hf := itn h12_ hf
  by_cases h13_ : x1 = (53 : Int32)
  · have hf := itp h13_ hf
    rw [h13_]
    refine lv_tableIn hx hb dX6_statement_7 (by decide) (by decide) (tgt := 230) (by rfl) (by decide) ?_
    refine lv_aload_n hx hb dX6_statement_230 rfl (lv_at hl 0 rfl) ?_
    obtain ⟨r45, σ46, hc, hf⟩ := obd_some hf
    refine zr_calli (As := []) (rest := []) X J 2 ho_C_X6.1 ho_C_X6.2.1 ho_C_X6.2.2 yy_X6_misplaced mw_methodLink_TinyCReader_274_TinyCReader_misplaced_I (d := 1) (zR_ok (by omega) (by decide)) hl.1 rfl (Nat.le_of_ble_eq_true rfl) (tX6_misplaced  hc) dX6_statement_231 (fun H locs J => ?_)
    exact zr_iret X J hf dX6_statement_234
  have hf := itn h13_ hf
  by_cases h14_ : x1 = (54 : Int32)
  · have hf := itp h14_ hf
    rw [h14_]
    refine lv_tableIn hx hb dX6_statement_7 (by decide) (by decide) (tgt := 230) (by rfl) (by decide) ?_
    refine lv_aload_n hx hb dX6_statement_230 rfl (lv_at hl 0 rfl) ?_
    obtain ⟨r47, σ48, hc, hf⟩ := obd_some hf
    refine zr_calli (As := []) (rest := []) X J 2 ho_C_X6.1 ho_C_X6.2.1 ho_C_X6.2.2 yy_X6_misplaced mw_methodLink_TinyCReader_274_TinyCReader_misplaced_I (d := 1) (zR_ok (by omega) (by decide)) hl.1 rfl (Nat.le_of_ble_eq_true rfl) (tX6_misplaced  hc) dX6_statement_231 (fun H locs J => ?_)
    exact zr_iret X J hf dX6_statement_234
  have hf := itn h14_ hf
  by_cases h15_ : x1 = (55 : Int32)
  · have hf := itp h15_ hf
    rw [h15_]
    refine lv_tableIn hx hb dX6_statement_7 (by decide) (by decide) (tgt := 230) (by rfl) (by decide) ?_
    refine lv_aload_n hx hb dX6_statement_230 rfl (lv_at hl 0 rfl) ?_
    obtain ⟨r49, σ50, hc, hf⟩ := obd_some hf
    refine zr_calli (As := []) (rest := []) X J 2 ho_C_X6.1 ho_C_X6.2.1 ho_C_X6.2.2 yy_X6_misplaced mw_methodLink_TinyCReader_274_TinyCReader_misplaced_I (d := 1) (zR_ok (by omega) (by decide)) hl.1 rfl (Nat.le_of_ble_eq_true rfl) (tX6_misplaced  hc) dX6_statement_231 (fun H locs J => ?_)
    exact zr_iret X J hf dX6_statement_234
  have hf := itn h15_ hf
  by_cases h16_ : x1 = (56 : Int32)
  · have hf := itp h16_ hf
    rw [h16_]
    refine lv_tableIn hx hb dX6_statement_7 (by decide) (by decide) (tgt := 145) (by rfl) (by decide) ?_
    refine lv_aload_n hx hb dX6_statement_145 rfl (lv_at hl 0 rfl) ?_
    obtain ⟨r51, σ52, hc, hf⟩ := obd_some hf
    refine zr_calli (As := []) (rest := []) X J 2 ho_C_X6.1 ho_C_X6.2.1 ho_C_X6.2.2 yy_X6_empty mw_methodLink_TinyCReader_259_TinyCReader_empty_I (d := 2) (zR_ok (by omega) (by decide)) hl.1 rfl (Nat.le_of_ble_eq_true rfl) (tX6_empty  hc) dX6_statement_146 (fun H locs J => ?_)
    exact zr_iret X J hf dX6_statement_149
  have hf := itn h16_ hf
  refine lv_tableOut hx hb dX6_statement_7 (tgt := 230) (by have := lv_neT h0_ (a := 40) (by decide); have := lv_neT h1_ (a := 41) (by decide); have := lv_neT h2_ (a := 42) (by decide); have := lv_neT h3_ (a := 43) (by decide); have := lv_neT h4_ (a := 44) (by decide); have := lv_neT h5_ (a := 45) (by decide); have := lv_neT h6_ (a := 46) (by decide); have := lv_neT h7_ (a := 47) (by decide); have := lv_neT h8_ (a := 48) (by decide); have := lv_neT h9_ (a := 49) (by decide); have := lv_neT h10_ (a := 50) (by decide); have := lv_neT h11_ (a := 51) (by decide); have := lv_neT h12_ (a := 52) (by decide); have := lv_neT h13_ (a := 53) (by decide); have := lv_neT h14_ (a := 54) (by decide); have := lv_neT h15_ (a := 55) (by decide); have := lv_neT h16_ (a := 56) (by decide); omega) (by decide) ?_
  refine lv_aload_n hx hb dX6_statement_230 rfl (lv_at hl 0 rfl) ?_
  obtain ⟨r53, σ54, hc, hf⟩ := obd_some hf
  refine zr_calli (As := []) (rest := []) X J 2 ho_C_X6.1 ho_C_X6.2.1 ho_C_X6.2.2 yy_X6_misplaced mw_methodLink_TinyCReader_274_TinyCReader_misplaced_I (d := 1) (zR_ok (by omega) (by decide)) hl.1 rfl (Nat.le_of_ble_eq_true rfl) (tX6_misplaced  hc) dX6_statement_231 (fun H locs J => ?_)
  exact zr_iret X J hf dX6_statement_234
theorem tnX6_statement : ∀ (n : Nat)  (σ u : zSt) (r : Int32), fX6_statement ln N M n  σ = some (r, u) → zMi l yX6_statement cX6_statement 3 (some .int) (2 * n + (4 * M + 6)) D cy shC ad ts ln [.ref (ad 2)] σ r u := by
  intro n
  induction n with
  | zero =>
    intro  σ u r hf
    rw [fX6_statement] at hf
    cases hf
  | succ n ih =>
    intro  σ u r hf
    rw [fX6_statement] at hf
    have h := tX6_statementB (l := l) (D := D) (cy := cy) (ad := ad) (ts := ts) (dk := 2 * n + (4 * M + 6)) (by omega) ih hf
    have e1 : 2 * (n + 1) + (4 * M + 6) = 2 * n + (4 * M + 6) + 2 := by omega
    rw [e1]
    exact h
theorem tX6_statement (_ : Unit)  (σ u : zSt) (r : Int32) (hf : fX6_statement ln N M M  σ = some (r, u)) : zMi l yX6_statement cX6_statement 3 (some .int) (6 * M + 6) D cy shC ad ts ln [.ref (ad 2)] σ r u := by
  have h := tnX6_statement (l := l) (D := D) (cy := cy) (ad := ad) (ts := ts) M  σ u r hf
  have e1 : 6 * M + 6 = 2 * M + (4 * M + 6) := by omega
  rw [e1]
  exact h
set_option maxHeartbeats 4000000 in
theorem tX6_closeFunction {a1_ : Int32}  {σ u : zSt} {r : Unit} (hf : fX6_closeFunction ln N M a1_ σ = some (r, u)) : zMv l yX6_closeFunction cX6_closeFunction 2 none (2) D cy shC ad ts ln [.ref (ad 2), .int a1_] σ u := by
  refine zM_of (by decide) (Nat.le_of_ble_eq_true rfl) (fun p e s m args below meth c ls ha X J hl => ?_)
  have hx := X.1
  have hb := X.2.1
  have hl : lv_has ls 2 [(0, .ref (ad 2)), (1, .int a1_)] := hl
  generalize s.heap = H at J ⊢
  generalize ([] : List Loc) = locs at J ⊢
  show W p l e (zRm (2)) s m args below meth c H locs 0 0 (zQv D cy shC ad ts ln below args s (r, u)) (F0 m 0 ls [])
  unfold fX6_closeFunction at hf
  refine lv_aload_n hx hb dX6_closeFunction_0 rfl (lv_at hl 0 rfl) ?_
  obtain ⟨q1, hq1, er, hf⟩ := rbd_some hf
  refine gf_X6_51 X J er dX6_closeFunction_1 ?_
  refine lv_iconst (v := (1 : Int32)) hx hb dX6_closeFunction_4 (by decide) ?_
  refine lv_iconst (v := (0 : Int32)) hx hb dX6_closeFunction_5 (by decide) ?_
  obtain ⟨r2, σ3, hc, hf⟩ := obd_some hf
  refine zr_callNv (As := [.int (1 : Int32), .int (0 : Int32)]) (rest := []) X J q1 (ho_C_X0 hq1).1 (ho_C_X0 hq1).2.1 (ho_C_X0 hq1).2.2 yy_X0_addWith mw_methodLinkNest_TinyCReader_196_TinyCCode_addWith_IIV_TinyC (d := 0) (zR_ok (by omega) (by decide)) hl.1 rfl (Nat.le_of_ble_eq_true rfl) (tX0_addWith hq1 hc) dX6_closeFunction_6 (fun H locs J => ?_)
  refine lv_aload_n hx hb dX6_closeFunction_9 rfl (lv_at hl 0 rfl) ?_
  obtain ⟨q4, hq4, er, hf⟩ := rbd_some hf
  refine gf_X6_51 X J er dX6_closeFunction_10 ?_
  refine lv_bipush (v := (33 : Int32)) hx hb dX6_closeFunction_13 (by decide) ?_
  refine lv_aload_n hx hb dX6_closeFunction_15 rfl (lv_at hl 0 rfl) ?_
  refine gf_X6_9 X J dX6_closeFunction_16 ?_
  refine gf_X6_202 X J dX6_closeFunction_19 ?_
  obtain ⟨r5, σ6, hc, hf⟩ := obd_some hf
  refine zr_callNv (As := [.int (33 : Int32), .int (zI σ3 3 5)]) (rest := []) X J q4 (ho_C_X0 hq4).1 (ho_C_X0 hq4).2.1 (ho_C_X0 hq4).2.2 yy_X0_addWith mw_methodLinkNest_TinyCReader_196_TinyCCode_addWith_IIV_TinyC (d := 0) (zR_ok (by omega) (by decide)) hl.1 rfl (Nat.le_of_ble_eq_true rfl) (tX0_addWith hq4 hc) dX6_closeFunction_22 (fun H locs J => ?_)
  refine lv_aload_n hx hb dX6_closeFunction_25 rfl (lv_at hl 0 rfl) ?_
  obtain ⟨q7, hq7, er, hf⟩ := rbd_some hf
  refine gf_X6_51 X J er dX6_closeFunction_26 ?_
  refine lv_aload_n hx hb dX6_closeFunction_29 rfl (lv_at hl 0 rfl) ?_
  refine gf_X6_26 X J dX6_closeFunction_30 ?_
  refine lv_aload_n hx hb dX6_closeFunction_33 rfl (lv_at hl 0 rfl) ?_
  refine gf_X6_164 X J dX6_closeFunction_34 ?_
  obtain ⟨r8, σ9, hc, hf⟩ := obd_some hf
  refine zr_callNi (As := [.int (zI σ6 2 7)]) (rest := [.ref (ad q7)]) X J 4 ho_C_X4.1 ho_C_X4.2.1 ho_C_X4.2.2 yy_X4_placeOf mw_methodLinkNest_TinyCReader_204_TinyCNames_placeOf_II_TinyC (d := 0) (zR_ok (by omega) (by decide)) hl.1 rfl (Nat.le_of_ble_eq_true rfl) (tX4_placeOf  hc) dX6_closeFunction_37 (fun H locs J => ?_)
  refine lv_iconst (v := (1 : Int32)) hx hb dX6_closeFunction_40 (by decide) ?_
  refine lv_iadd hx hb dX6_closeFunction_41 ?_
  refine lv_aload_n hx hb dX6_closeFunction_42 rfl (lv_at hl 0 rfl) ?_
  refine gf_X6_193 X J dX6_closeFunction_43 ?_
  obtain ⟨r10, σ11, hc, hf⟩ := obd_some hf
  refine zr_callNv (As := [.int (r8 + (1 : Int32)), .int (zI σ9 2 9)]) (rest := []) X J q7 (ho_C_X0 hq7).1 (ho_C_X0 hq7).2.1 (ho_C_X0 hq7).2.2 yy_X0_set mw_methodLinkNest_TinyCReader_187_TinyCCode_set_IIV_TinyC (d := 0) (zR_ok (by omega) (by decide)) hl.1 rfl (Nat.le_of_ble_eq_true rfl) (tX0_set hq7 hc) dX6_closeFunction_46 (fun H locs J => ?_)
  refine lv_aload_n hx hb dX6_closeFunction_49 rfl (lv_at hl 0 rfl) ?_
  obtain ⟨q12, hq12, er, hf⟩ := rbd_some hf
  refine gf_X6_46 X J er dX6_closeFunction_50 ?_
  refine lv_aload_n hx hb dX6_closeFunction_53 rfl (lv_at hl 0 rfl) ?_
  refine gf_X6_26 X J dX6_closeFunction_54 ?_
  refine lv_aload_n hx hb dX6_closeFunction_57 rfl (lv_at hl 0 rfl) ?_
  refine gf_X6_164 X J dX6_closeFunction_58 ?_
  obtain ⟨r13, σ14, hc, hf⟩ := obd_some hf
  refine zr_callNi (As := [.int (zI σ11 2 7)]) (rest := [.ref (ad q12)]) X J 4 ho_C_X4.1 ho_C_X4.2.1 ho_C_X4.2.2 yy_X4_nodeOf mw_methodLinkNest_TinyCReader_207_TinyCNames_nodeOf_II_TinyC (d := 0) (zR_ok (by omega) (by decide)) hl.1 rfl (Nat.le_of_ble_eq_true rfl) (tX4_nodeOf  hc) dX6_closeFunction_61 (fun H locs J => ?_)
  refine lv_iload_n hx hb dX6_closeFunction_64 rfl (lv_at hl 1 rfl) ?_
  refine lv_aload_n hx hb dX6_closeFunction_65 rfl (lv_at hl 0 rfl) ?_
  refine gf_X6_193 X J dX6_closeFunction_66 ?_
  refine lv_iconst (v := (-1 : Int32)) hx hb dX6_closeFunction_69 (by decide) ?_
  obtain ⟨r15, σ16, hc, hf⟩ := obd_some hf
  refine zr_callNv (As := [.int r13, .int a1_, .int (zI σ14 2 9), .int (-1 : Int32)]) (rest := []) X J q12 (ho_C_X9 hq12).1 (ho_C_X9 hq12).2.1 (ho_C_X9 hq12).2.2 yy_X9_setParts mw_methodLinkNest_TinyCReader_210_TinyCTree_setParts_IIIIV_TinyC (d := 0) (zR_ok (by omega) (by decide)) hl.1 rfl (Nat.le_of_ble_eq_true rfl) (tX9_setParts hq12 hc) dX6_closeFunction_70 (fun H locs J => ?_)
  refine lv_aload_n hx hb dX6_closeFunction_73 rfl (lv_at hl 0 rfl) ?_
  refine gf_X6_26 X J dX6_closeFunction_74 ?_
  refine lv_aload_n hx hb dX6_closeFunction_77 rfl (lv_at hl 0 rfl) ?_
  refine gf_X6_164 X J dX6_closeFunction_78 ?_
  refine lv_iconst (v := (1 : Int32)) hx hb dX6_closeFunction_81 (by decide) ?_
  refine lv_iadd hx hb dX6_closeFunction_82 ?_
  obtain ⟨r17, σ18, hc, hf⟩ := obd_some hf
  refine zr_callNv (As := [.int ((zI σ16 2 7) + (1 : Int32))]) (rest := []) X J 4 ho_C_X4.1 ho_C_X4.2.1 ho_C_X4.2.2 yy_X4_cutTo mw_methodLinkNest_TinyCReader_214_TinyCNames_cutTo_IV_TinyC (d := 1) (zR_ok (by omega) (by decide)) hl.1 rfl (Nat.le_of_ble_eq_true rfl) (tX4_cutTo  hc) dX6_closeFunction_83 (fun H locs J => ?_)
  exact zr_vret X J hf dX6_closeFunction_86
set_option maxHeartbeats 4000000 in
theorem bX6_arraySize_40 {o : Int32 × zSt} (X : zX p s m args meth c D cy shC ad ts cX6_arraySize 1 (some .int) RX6)    {σ : zSt} {H : Heap} {locs : List Loc} {ls : Array Slot} (J : zJ D cy shC ad ln s σ H locs) (hl : lv_has ls 1 [(0, .ref (ad 2))]) (hf : fX6_arraySize_b40 ln N M   σ = some o) : W p l e (zRm (1)) s m args below meth c H locs 0 0 (zQi D cy shC ad ts ln below args s o) (F0 m 40 ls []) := by
  have hx := X.1
  have hb := X.2.1
  unfold fX6_arraySize_b40 at hf
  refine lv_aload_n hx hb dX6_arraySize_40 rfl (lv_at hl 0 rfl) ?_
  refine gf_X6_21 X J dX6_arraySize_41 ?_
  refine lv_bipush (v := (11 : Int32)) hx hb dX6_arraySize_44 (by decide) ?_
  obtain ⟨r1, σ2, hc, hf⟩ := obd_some hf
  refine zr_callNv (As := [.int (11 : Int32)]) (rest := []) X J 1 ho_C_X7.1 ho_C_X7.2.1 ho_C_X7.2.2 yy_X7_failHere mw_methodLinkNest_TinyCReader_133_TinyCScan_failHere_IV_TinyC (d := 0) (zR_ok (by omega) (by decide)) hl.1 rfl (Nat.le_of_ble_eq_true rfl) (tX7_failHere  hc) dX6_arraySize_46 (fun H locs J => ?_)
  refine lv_iconst (v := (0 : Int32)) hx hb dX6_arraySize_49 (by decide) ?_
  exact zr_iret X J hf dX6_arraySize_50
set_option maxHeartbeats 4000000 in
theorem tX6_arraySize   {σ u : zSt} {r : Int32} (hf : fX6_arraySize ln N M  σ = some (r, u)) : zMi l yX6_arraySize cX6_arraySize 1 (some .int) (1) D cy shC ad ts ln [.ref (ad 2)] σ r u := by
  refine zM_of (by decide) (Nat.le_of_ble_eq_true rfl) (fun p e s m args below meth c ls ha X J hl => ?_)
  have hx := X.1
  have hb := X.2.1
  have hl : lv_has ls 1 [(0, .ref (ad 2))] := hl
  generalize s.heap = H at J ⊢
  generalize ([] : List Loc) = locs at J ⊢
  show W p l e (zRm (1)) s m args below meth c H locs 0 0 (zQi D cy shC ad ts ln below args s (r, u)) (F0 m 0 ls [])
  unfold fX6_arraySize at hf
  refine lv_aload_n hx hb dX6_arraySize_0 rfl (lv_at hl 0 rfl) ?_
  refine gf_X6_21 X J dX6_arraySize_1 ?_
  refine gf_X6_78 X J dX6_arraySize_4 ?_
  refine lv_bipush (v := (41 : Int32)) hx hb dX6_arraySize_7 (by decide) ?_
  refine lv_icmp_eq hx hb dX6_arraySize_9 rfl (fun h => ?_) (fun h => ?_)
  · have hf := itp h hf
    refine lv_aload_n hx hb dX6_arraySize_14 rfl (lv_at hl 0 rfl) ?_
    refine gf_X6_21 X J dX6_arraySize_15 ?_
    refine gf_X6_154 X J dX6_arraySize_18 ?_
    refine lv_lconst (v := (1 : Int64)) hx hb dX6_arraySize_21 (by decide) ?_
    refine W.lcmp hx hb dX6_arraySize_22 ?_
    refine lv_if_lt hx hb dX6_arraySize_23 rfl (fun h => ?_) (fun h => ?_)
    · have hf := itp h hf
      exact bX6_arraySize_40 X   J (lv_sub hl [0] rfl) hf
    · have hf := itn h hf
      refine lv_aload_n hx hb dX6_arraySize_26 rfl (lv_at hl 0 rfl) ?_
      refine gf_X6_21 X J dX6_arraySize_27 ?_
      refine gf_X6_154 X J dX6_arraySize_30 ?_
      refine lv_ldc2 (v := (1000 : Int64)) hx hb X.2.2.2.1 (X.2.2.2.2.1 _ mw_constantLong_TinyCReader_157) dX6_arraySize_33 ?_
      refine W.lcmp hx hb dX6_arraySize_36 ?_
      refine lv_if_le hx hb dX6_arraySize_37 rfl (fun h => ?_) (fun h => ?_)
      · have hf := itp h hf
        refine lv_aload_n hx hb dX6_arraySize_51 rfl (lv_at hl 0 rfl) ?_
        refine gf_X6_21 X J dX6_arraySize_52 ?_
        refine gf_X6_154 X J dX6_arraySize_55 ?_
        refine lv_l2i hx hb dX6_arraySize_58 rfl ?_
        exact zr_iret X J hf dX6_arraySize_59
      · have hf := itn h hf
        exact bX6_arraySize_40 X   J (lv_sub hl [0] rfl) hf
  · have hf := itn h hf
    refine lv_iconst (v := (0 : Int32)) hx hb dX6_arraySize_12 (by decide) ?_
    exact zr_iret X J hf dX6_arraySize_13
set_option maxHeartbeats 4000000 in
theorem bX6_global_50 {o : Unit × zSt} (X : zX p s m args meth c D cy shC ad ts cX6_global 5 none RX6)  {x1_ : Int64} {x3_ : Int32} {x4_ : Int32}  {σ : zSt} {H : Heap} {locs : List Loc} {ls : Array Slot} (J : zJ D cy shC ad ln s σ H locs) (hl : lv_has ls 5 [(0, .ref (ad 2)), (1, .long x1_), (3, .int x3_), (4, .int x4_)]) (hf : fX6_global_b50 ln N M  x1_ x3_ x4_ σ = some o) : W p l e (zRm (3)) s m args below meth c H locs 0 0 (zQv D cy shC ad ts ln below args s o) (F0 m 50 ls []) := by
  have hx := X.1
  have hb := X.2.1
  unfold fX6_global_b50 at hf
  refine lv_aload_n hx hb dX6_global_50 rfl (lv_at hl 0 rfl) ?_
  refine gf_X6_21 X J dX6_global_51 ?_
  refine lv_bipush (v := (56 : Int32)) hx hb dX6_global_54 (by decide) ?_
  obtain ⟨r3, σ4, hc, hf⟩ := obd_some hf
  refine zr_callNv (As := [.int (56 : Int32)]) (rest := []) X J 1 ho_C_X7.1 ho_C_X7.2.1 ho_C_X7.2.2 yy_X7_pass mw_methodLinkNest_TinyCReader_145_TinyCScan_pass_IV_TinyC (d := 2) (zR_ok (by omega) (by decide)) hl.1 rfl (Nat.le_of_ble_eq_true rfl) (tX7_pass  hc) dX6_global_56 (fun H locs J => ?_)
  refine lv_aload_n hx hb dX6_global_59 rfl (lv_at hl 0 rfl) ?_
  refine gf_X6_26 X J dX6_global_60 ?_
  refine lv_lload_n hx hb dX6_global_63 rfl (lv_at hl 1 rfl) ?_
  refine lv_iload_n hx hb dX6_global_64 rfl (lv_at hl 2 rfl) ?_
  refine lv_aload_n hx hb dX6_global_65 rfl (lv_at hl 0 rfl) ?_
  obtain ⟨q5, hq5, er, hf⟩ := rbd_some hf
  refine gf_X6_36 X J er dX6_global_66 ?_
  refine gf_X6_148 hq5 X J dX6_global_69 ?_
  refine lv_iload hx hb dX6_global_72 (lv_at hl 3 rfl) ?_
  obtain ⟨r6, σ7, hc, hf⟩ := obd_some hf
  refine zr_callNv (As := [.long x1_, .int x3_, .int (zI σ4 q5 2), .int x4_]) (rest := []) X J 4 ho_C_X4.1 ho_C_X4.2.1 ho_C_X4.2.2 yy_X4_add mw_methodLinkNest_TinyCReader_151_TinyCNames_add_JIIIV_TinyC (d := 0) (zR_ok (by omega) (by decide)) hl.1 rfl (Nat.le_of_ble_eq_true rfl) (tX4_add  hc) dX6_global_74 (fun H locs J => ?_)
  refine lv_aload_n hx hb dX6_global_77 rfl (lv_at hl 0 rfl) ?_
  obtain ⟨q8, hq8, er, hf⟩ := rbd_some hf
  refine gf_X6_36 X J er dX6_global_78 ?_
  refine lv_dup hx hb dX6_global_81 rfl ?_
  refine gf_X6_148 hq8 X J dX6_global_82 ?_
  refine lv_iload hx hb dX6_global_85 (lv_at hl 3 rfl) ?_
  refine lv_iadd hx hb dX6_global_87 ?_
  refine pf_X6_148 hq8 X J dX6_global_88 (fun σ9 H locs eq J => ?_)
  have hf := bnd_eq eq hf
  clear eq
  exact zr_vret X J hf dX6_global_91
set_option maxHeartbeats 4000000 in
theorem tX6_global {a1_ : Int64}  {σ u : zSt} {r : Unit} (hf : fX6_global ln N M a1_ σ = some (r, u)) : zMv l yX6_global cX6_global 5 none (3) D cy shC ad ts ln [.ref (ad 2), .long a1_] σ u := by
  refine zM_of (by decide) (Nat.le_of_ble_eq_true rfl) (fun p e s m args below meth c ls ha X J hl => ?_)
  have hx := X.1
  have hb := X.2.1
  have hl : lv_has ls 5 [(0, .ref (ad 2)), (1, .long a1_)] := hl
  generalize s.heap = H at J ⊢
  generalize ([] : List Loc) = locs at J ⊢
  show W p l e (zRm (3)) s m args below meth c H locs 0 0 (zQv D cy shC ad ts ln below args s (r, u)) (F0 m 0 ls [])
  unfold fX6_global at hf
  refine lv_iconst (v := (0 : Int32)) hx hb dX6_global_0 (by decide) ?_
  refine lv_topi (fun x1 eq => ?_)
  have hf := bnd_eq eq hf
  clear eq
  refine lv_istore_n hx hb dX6_global_1 rfl hl (by decide) rfl (fun ls hl => ?_)
  have hl : lv_has ls 5 [(3, .int x1), (0, .ref (ad 2)), (1, .long a1_)] := hl
  refine lv_iconst (v := (1 : Int32)) hx hb dX6_global_2 (by decide) ?_
  refine lv_topi (fun x2 eq => ?_)
  have hf := bnd_eq eq hf
  clear eq
  refine lv_istore hx hb dX6_global_3 hl (by decide) rfl (fun ls hl => ?_)
  have hl : lv_has ls 5 [(4, .int x2), (3, .int x1), (0, .ref (ad 2)), (1, .long a1_)] := hl
  refine lv_aload_n hx hb dX6_global_5 rfl (lv_at hl 2 rfl) ?_
  refine gf_X6_21 X J dX6_global_6 ?_
  refine gf_X6_78 X J dX6_global_9 ?_
  refine lv_bipush (v := (53 : Int32)) hx hb dX6_global_12 (by decide) ?_
  refine lv_icmp_ne hx hb dX6_global_14 rfl (fun h => ?_) (fun h => ?_)
  · have hf := itn h hf
    exact bX6_global_50 X   J (lv_sub hl [2, 3, 1, 0] rfl) hf
  · have hf := itp h hf
    refine lv_iconst (v := (1 : Int32)) hx hb dX6_global_17 (by decide) ?_
    refine lv_topi (fun x10 eq => ?_)
    have hf := bnd_eq eq hf
    clear eq
    refine lv_istore_n hx hb dX6_global_18 rfl hl (by decide) rfl (fun ls hl => ?_)
    have hl : lv_has ls 5 [(3, .int x10), (4, .int x2), (0, .ref (ad 2)), (1, .long a1_)] := hl
    refine lv_aload_n hx hb dX6_global_19 rfl (lv_at hl 2 rfl) ?_
    refine gf_X6_21 X J dX6_global_20 ?_
    obtain ⟨r11, σ12, hc, hf⟩ := obd_some hf
    refine zr_callNv (As := []) (rest := []) X J 1 ho_C_X7.1 ho_C_X7.2.1 ho_C_X7.2.2 yy_X7_come mw_methodLinkNest_TinyCReader_81_TinyCScan_come_V_TinyC (d := 1) (zR_ok (by omega) (by decide)) hl.1 rfl (Nat.le_of_ble_eq_true rfl) (tX7_come  hc) dX6_global_23 (fun H locs J => ?_)
    refine lv_aload_n hx hb dX6_global_26 rfl (lv_at hl 2 rfl) ?_
    obtain ⟨r13, σ14, hc, hf⟩ := obd_some hf
    refine zr_calli (As := []) (rest := []) X J 2 ho_C_X6.1 ho_C_X6.2.1 ho_C_X6.2.2 yy_X6_arraySize mw_methodLink_TinyCReader_142_TinyCReader_arraySize_I (d := 1) (zR_ok (by omega) (by decide)) hl.1 rfl (Nat.le_of_ble_eq_true rfl) (tX6_arraySize  hc) dX6_global_27 (fun H locs J => ?_)
    refine lv_istore hx hb dX6_global_30 hl (by decide) rfl (fun ls hl => ?_)
    have hl : lv_has ls 5 [(4, .int r13), (3, .int x10), (0, .ref (ad 2)), (1, .long a1_)] := hl
    refine lv_aload_n hx hb dX6_global_32 rfl (lv_at hl 2 rfl) ?_
    refine gf_X6_21 X J dX6_global_33 ?_
    refine lv_bipush (v := (41 : Int32)) hx hb dX6_global_36 (by decide) ?_
    obtain ⟨r15, σ16, hc, hf⟩ := obd_some hf
    refine zr_callNv (As := [.int (41 : Int32)]) (rest := []) X J 1 ho_C_X7.1 ho_C_X7.2.1 ho_C_X7.2.2 yy_X7_pass mw_methodLinkNest_TinyCReader_145_TinyCScan_pass_IV_TinyC (d := 2) (zR_ok (by omega) (by decide)) hl.1 rfl (Nat.le_of_ble_eq_true rfl) (tX7_pass  hc) dX6_global_38 (fun H locs J => ?_)
    refine lv_aload_n hx hb dX6_global_41 rfl (lv_at hl 2 rfl) ?_
    refine gf_X6_21 X J dX6_global_42 ?_
    refine lv_bipush (v := (54 : Int32)) hx hb dX6_global_45 (by decide) ?_
    obtain ⟨r17, σ18, hc, hf⟩ := obd_some hf
    refine zr_callNv (As := [.int (54 : Int32)]) (rest := []) X J 1 ho_C_X7.1 ho_C_X7.2.1 ho_C_X7.2.2 yy_X7_pass mw_methodLinkNest_TinyCReader_145_TinyCScan_pass_IV_TinyC (d := 2) (zR_ok (by omega) (by decide)) hl.1 rfl (Nat.le_of_ble_eq_true rfl) (tX7_pass  hc) dX6_global_47 (fun H locs J => ?_)
    exact bX6_global_50 X   J (lv_sub hl [2, 3, 1, 0] rfl) hf
set_option maxHeartbeats 4000000 in
theorem tX0_fits {q_ : Nat} (hq_ : q_ = 13 ∨ q_ = 14)   {σ u : zSt} {r : Int32} (hf : fX0_fits ln N M q_  σ = some (r, u)) : zMi l yX0_fits cX0_fits 1 (some .boolean) (0) D cy shC ad ts ln [.ref (ad q_)] σ r u := by
  refine zM_of (by decide) (Nat.le_of_ble_eq_true rfl) (fun p e s m args below meth c ls ha X J hl => ?_)
  have hx := X.1
  have hb := X.2.1
  have hl : lv_has ls 1 [(0, .ref (ad q_))] := hl
  generalize s.heap = H at J ⊢
  generalize ([] : List Loc) = locs at J ⊢
  show W p l e (zRm (0)) s m args below meth c H locs 0 0 (zQi D cy shC ad ts ln below args s (r, u)) (F0 m 0 ls [])
  unfold fX0_fits at hf
  refine lv_aload_n hx hb dX0_fits_0 rfl (lv_at hl 0 rfl) ?_
  refine gf_X0_13 hq_ X J dX0_fits_1 ?_
  refine lv_aload_n hx hb dX0_fits_4 rfl (lv_at hl 0 rfl) ?_
  refine gf_X0_7 hq_ X J dX0_fits_5 ?_
  refine an_X0_X0f0 hq_ X J dX0_fits_8 ?_
  refine lv_icmp_gt hx hb dX0_fits_9 rfl (fun h => ?_) (fun h => ?_)
  · have hf := itp h hf
    refine lv_iconst (v := (0 : Int32)) hx hb dX0_fits_16 (by decide) ?_
    exact zr_zretc X J (by decide) hf dX0_fits_17
  · have hf := itn h hf
    refine lv_iconst (v := (1 : Int32)) hx hb dX0_fits_12 (by decide) ?_
    refine lv_goto hx hb dX0_fits_13 rfl ?_
    exact zr_zretc X J (by decide) hf dX0_fits_17
set_option maxHeartbeats 4000000 in
theorem bX6_finish_71 {o : Unit × zSt} (X : zX p s m args meth c D cy shC ad ts cX6_finish 1 none RX6)  {s0_ : Int32} {s1_ : Nat} (hs1_ : s1_ = 9 ∨ s1_ = 10) {σ : zSt} {H : Heap} {locs : List Loc} {ls : Array Slot} (J : zJ D cy shC ad ln s σ H locs) (hl : lv_has ls 1 []) (hf : fX6_finish_b71 ln N M  s0_ s1_ σ = some o) : W p l e (zRm (1)) s m args below meth c H locs 0 0 (zQv D cy shC ad ts ln below args s o) (F0 m 71 ls [.int s0_, .ref (ad s1_)]) := by
  have hx := X.1
  have hb := X.2.1
  unfold fX6_finish_b71 at hf
  obtain ⟨h01, hf⟩ := itx hf
  have h01 := Decidable.not_not.mp h01
  refine pf_X6_129 hs1_ X J h01 dX6_finish_71 (fun σ6 H locs eq J => ?_)
  have hf := bnd_eq eq hf
  clear eq
  exact zr_vret X J hf dX6_finish_74
set_option maxHeartbeats 4000000 in
theorem bX6_finish_52 {o : Unit × zSt} (X : zX p s m args meth c D cy shC ad ts cX6_finish 1 none RX6)    {σ : zSt} {H : Heap} {locs : List Loc} {ls : Array Slot} (J : zJ D cy shC ad ln s σ H locs) (hl : lv_has ls 1 [(0, .ref (ad 2))]) (hf : fX6_finish_b52 ln N M   σ = some o) : W p l e (zRm (1)) s m args below meth c H locs 0 0 (zQv D cy shC ad ts ln below args s o) (F0 m 52 ls []) := by
  have hx := X.1
  have hb := X.2.1
  unfold fX6_finish_b52 at hf
  refine lv_aload_n hx hb dX6_finish_52 rfl (lv_at hl 0 rfl) ?_
  obtain ⟨q5, hq5, er, hf⟩ := rbd_some hf
  refine gf_X6_36 X J er dX6_finish_53 ?_
  refine lv_aload_n hx hb dX6_finish_56 rfl (lv_at hl 0 rfl) ?_
  refine gf_X6_21 X J dX6_finish_57 ?_
  refine gf_X6_115 X J dX6_finish_60 ?_
  refine lv_if_ne hx hb dX6_finish_63 rfl (fun h => ?_) (fun h => ?_)
  · have hf := itn h hf
    refine lv_iconst (v := (0 : Int32)) hx hb dX6_finish_70 (by decide) ?_
    exact bX6_finish_71 X  hq5 J (lv_sub hl [] rfl) hf
  · have hf := itp h hf
    refine lv_iconst (v := (1 : Int32)) hx hb dX6_finish_66 (by decide) ?_
    refine lv_goto hx hb dX6_finish_67 rfl ?_
    exact bX6_finish_71 X  hq5 J (lv_sub hl [] rfl) hf
set_option maxHeartbeats 4000000 in
theorem bX6_finish_26 {o : Unit × zSt} (X : zX p s m args meth c D cy shC ad ts cX6_finish 1 none RX6)    {σ : zSt} {H : Heap} {locs : List Loc} {ls : Array Slot} (J : zJ D cy shC ad ln s σ H locs) (hl : lv_has ls 1 [(0, .ref (ad 2))]) (hf : fX6_finish_b26 ln N M   σ = some o) : W p l e (zRm (1)) s m args below meth c H locs 0 0 (zQv D cy shC ad ts ln below args s o) (F0 m 26 ls []) := by
  have hx := X.1
  have hb := X.2.1
  unfold fX6_finish_b26 at hf
  refine lv_aload_n hx hb dX6_finish_26 rfl (lv_at hl 0 rfl) ?_
  obtain ⟨q2, hq2, er, hf⟩ := rbd_some hf
  refine gf_X6_51 X J er dX6_finish_27 ?_
  obtain ⟨r3, σ4, hc, hf⟩ := obd_some hf
  refine zr_callNi (As := []) (rest := []) X J q2 (ho_C_X0 hq2).1 (ho_C_X0 hq2).2.1 (ho_C_X0 hq2).2.2 yy_X0_fits mw_methodLinkNest_TinyCReader_125_TinyCCode_fits_Z_TinyC (d := 0) (zR_ok (by omega) (by decide)) hl.1 rfl (Nat.le_of_ble_eq_true rfl) (tX0_fits hq2 hc) dX6_finish_30 (fun H locs J => ?_)
  refine lv_if_ne hx hb dX6_finish_33 rfl (fun h => ?_) (fun h => ?_)
  · have hf := itn h hf
    exact bX6_finish_52 X   J (lv_sub hl [0] rfl) hf
  · have hf := itp h hf
    refine lv_aload_n hx hb dX6_finish_36 rfl (lv_at hl 0 rfl) ?_
    refine gf_X6_21 X J dX6_finish_37 ?_
    refine lv_bipush (v := (10 : Int32)) hx hb dX6_finish_40 (by decide) ?_
    refine lv_aload_n hx hb dX6_finish_42 rfl (lv_at hl 0 rfl) ?_
    refine gf_X6_21 X J dX6_finish_43 ?_
    refine gf_X6_74 X J dX6_finish_46 ?_
    obtain ⟨r7, σ8, hc, hf⟩ := obd_some hf
    refine zr_callNv (As := [.int (10 : Int32), .int (zI σ4 1 1)]) (rest := []) X J 1 ho_C_X7.1 ho_C_X7.2.1 ho_C_X7.2.2 yy_X7_fail mw_methodLinkNest_TinyCReader_121_TinyCScan_fail_IIV_TinyC (d := 0) (zR_ok (by omega) (by decide)) hl.1 rfl (Nat.le_of_ble_eq_true rfl) (tX7_fail  hc) dX6_finish_49 (fun H locs J => ?_)
    exact bX6_finish_52 X   J (lv_sub hl [0] rfl) hf
set_option maxHeartbeats 4000000 in
theorem tX6_finish   {σ u : zSt} {r : Unit} (hf : fX6_finish ln N M  σ = some (r, u)) : zMv l yX6_finish cX6_finish 1 none (1) D cy shC ad ts ln [.ref (ad 2)] σ u := by
  refine zM_of (by decide) (Nat.le_of_ble_eq_true rfl) (fun p e s m args below meth c ls ha X J hl => ?_)
  have hx := X.1
  have hb := X.2.1
  have hl : lv_has ls 1 [(0, .ref (ad 2))] := hl
  generalize s.heap = H at J ⊢
  generalize ([] : List Loc) = locs at J ⊢
  show W p l e (zRm (1)) s m args below meth c H locs 0 0 (zQv D cy shC ad ts ln below args s (r, u)) (F0 m 0 ls [])
  unfold fX6_finish at hf
  refine lv_aload_n hx hb dX6_finish_0 rfl (lv_at hl 0 rfl) ?_
  obtain ⟨q1, hq1, er, hf⟩ := rbd_some hf
  refine gf_X6_36 X J er dX6_finish_1 ?_
  refine gf_X6_118 hq1 X J dX6_finish_4 ?_
  refine lv_if_ge hx hb dX6_finish_7 rfl (fun h => ?_) (fun h => ?_)
  · have hf := itp h hf
    exact bX6_finish_26 X   J (lv_sub hl [0] rfl) hf
  · have hf := itn h hf
    refine lv_aload_n hx hb dX6_finish_10 rfl (lv_at hl 0 rfl) ?_
    refine gf_X6_21 X J dX6_finish_11 ?_
    refine lv_bipush (v := (7 : Int32)) hx hb dX6_finish_14 (by decide) ?_
    refine lv_aload_n hx hb dX6_finish_16 rfl (lv_at hl 0 rfl) ?_
    refine gf_X6_21 X J dX6_finish_17 ?_
    refine gf_X6_74 X J dX6_finish_20 ?_
    obtain ⟨r9, σ10, hc, hf⟩ := obd_some hf
    refine zr_callNv (As := [.int (7 : Int32), .int (zI σ 1 1)]) (rest := []) X J 1 ho_C_X7.1 ho_C_X7.2.1 ho_C_X7.2.2 yy_X7_fail mw_methodLinkNest_TinyCReader_121_TinyCScan_fail_IIV_TinyC (d := 0) (zR_ok (by omega) (by decide)) hl.1 rfl (Nat.le_of_ble_eq_true rfl) (tX7_fail  hc) dX6_finish_23 (fun H locs J => ?_)
    exact bX6_finish_26 X   J (lv_sub hl [0] rfl) hf
set_option maxHeartbeats 4000000 in
theorem bX6_readAll_162 {o : Int32 × zSt} (X : zX p s m args meth c D cy shC ad ts cX6_readAll 6 (some .int) RX6)    {σ : zSt} {H : Heap} {locs : List Loc} {ls : Array Slot} (J : zJ D cy shC ad ln s σ H locs) (hl : lv_has ls 6 [(0, .ref (ad 2))]) (hf : fX6_readAll_b162 ln N M   σ = some o) : W p l e (zRm (6 * M + 8)) s m args below meth c H locs 0 0 (zQi D cy shC ad ts ln below args s o) (F0 m 162 ls []) := by
  have hx := X.1
  have hb := X.2.1
  unfold fX6_readAll_b162 at hf
  refine lv_aload_n hx hb dX6_readAll_162 rfl (lv_at hl 0 rfl) ?_
  refine gf_X6_21 X J dX6_readAll_163 ?_
  refine lv_bipush (v := (58 : Int32)) hx hb dX6_readAll_166 (by decide) ?_
  obtain ⟨r19, σ20, hc, hf⟩ := obd_some hf
  refine zr_callNv (As := [.int (58 : Int32)]) (rest := []) X J 1 ho_C_X7.1 ho_C_X7.2.1 ho_C_X7.2.2 yy_X7_need mw_methodLinkNest_TinyCReader_109_TinyCScan_need_IV_TinyC (d := 1) (zR_ok (by omega) (by decide)) hl.1 rfl (Nat.le_of_ble_eq_true rfl) (tX7_need  hc) dX6_readAll_168 (fun H locs J => ?_)
  refine lv_aload_n hx hb dX6_readAll_171 rfl (lv_at hl 0 rfl) ?_
  obtain ⟨r21, σ22, hc, hf⟩ := obd_some hf
  refine zr_callv (As := []) (rest := []) X J 2 ho_C_X6.1 ho_C_X6.2.1 ho_C_X6.2.2 yy_X6_finish mw_methodLink_TinyCReader_112_TinyCReader_finish_V (d := 1) (zR_ok (by omega) (by decide)) hl.1 rfl (Nat.le_of_ble_eq_true rfl) (tX6_finish  hc) dX6_readAll_172 (fun H locs J => ?_)
  refine lv_aload_n hx hb dX6_readAll_175 rfl (lv_at hl 0 rfl) ?_
  refine gf_X6_21 X J dX6_readAll_176 ?_
  refine gf_X6_115 X J dX6_readAll_179 ?_
  exact zr_iret X J hf dX6_readAll_182
set_option maxHeartbeats 4000000 in
theorem bX6_readAll_156 {o : Int32 × zSt} (X : zX p s m args meth c D cy shC ad ts cX6_readAll 6 (some .int) RX6) {k68 : Int32 → zSt → Option (Int32 × zSt)} (hk68 : ∀ (x2_ : Int32) (σ : zSt) (H : Heap) (locs : List Loc) (ls : Array Slot), zJ D cy shC ad ln s σ H locs → lv_has ls 6 [(0, .ref (ad 2)), (2, .int x2_)] → k68 x2_ σ = some o → W p l e (zRm (6 * M + 8)) s m args below meth c H locs 0 0 (zQi D cy shC ad ts ln below args s o) (F0 m 68 ls [])) {x2_ : Int32}  {σ : zSt} {H : Heap} {locs : List Loc} {ls : Array Slot} (J : zJ D cy shC ad ln s σ H locs) (hl : lv_has ls 6 [(0, .ref (ad 2)), (2, .int x2_)]) (hf : fX6_readAll_b156 ln N M k68 x2_ σ = some o) : W p l e (zRm (6 * M + 8)) s m args below meth c H locs 0 0 (zQi D cy shC ad ts ln below args s o) (F0 m 156 ls []) := by
  have hx := X.1
  have hb := X.2.1
  unfold fX6_readAll_b156 at hf
  obtain ⟨x31, eq⟩ : ∃ z, z = x2_ + (1 : Int32) := ⟨_, rfl⟩
  have hf := bnd_eq eq hf
  refine lv_iinc hx hb dX6_readAll_156 hl (k := 1) rfl (v := x31) (by rw [eq]; rfl) (by decide) rfl (fun ls hl => ?_)
  clear eq
  have hl : lv_has ls 6 [(2, .int x31), (0, .ref (ad 2))] := hl
  refine lv_goto hx hb dX6_readAll_159 rfl ?_
  exact hk68 _ _ _ _ _ J (lv_sub hl [1, 0] rfl) hf
set_option maxHeartbeats 4000000 in
theorem bX6_readAll_68 {o : Int32 × zSt} (X : zX p s m args meth c D cy shC ad ts cX6_readAll 6 (some .int) RX6)  : ∀ (n : Nat) (x2_ : Int32) (σ : zSt) (H : Heap) (locs : List Loc) (ls : Array Slot), zJ D cy shC ad ln s σ H locs → lv_has ls 6 [(0, .ref (ad 2)), (2, .int x2_)] → fX6_readAll_b68 ln N M  n x2_ σ = some o → W p l e (zRm (6 * M + 8)) s m args below meth c H locs 0 0 (zQi D cy shC ad ts ln below args s o) (F0 m 68 ls []) := by
  have hx := X.1
  have hb := X.2.1
  intro n
  induction n with
  | zero =>
    intro x2_ σ H locs ls J hl hf
    rw [fX6_readAll_b68] at hf
    cases hf
  | succ n ih =>
    intro x2_ σ H locs ls J hl hf
    rw [fX6_readAll_b68] at hf
    refine lv_iload_n hx hb dX6_readAll_68 rfl (lv_at hl 1 rfl) ?_
    refine lv_aload_n hx hb dX6_readAll_69 rfl (lv_at hl 0 rfl) ?_
    refine gf_X6_21 X J dX6_readAll_70 ?_
    refine gf_X6_74 X J dX6_readAll_73 ?_
    refine lv_icmp_gt hx hb dX6_readAll_76 rfl (fun h => ?_) (fun h => ?_)
    · have hf := itp h hf
      exact bX6_readAll_162 X   J (lv_sub hl [0] rfl) hf
    · have hf := itn h hf
      refine lv_aload_n hx hb dX6_readAll_79 rfl (lv_at hl 0 rfl) ?_
      refine gf_X6_21 X J dX6_readAll_80 ?_
      refine gf_X6_78 X J dX6_readAll_83 ?_
      refine lv_bipush (v := (42 : Int32)) hx hb dX6_readAll_86 (by decide) ?_
      refine lv_icmp_ne hx hb dX6_readAll_88 rfl (fun h => ?_) (fun h => ?_)
      · have hf := itn h hf
        exact bX6_readAll_162 X   J (lv_sub hl [0] rfl) hf
      · have hf := itp h hf
        refine lv_aload_n hx hb dX6_readAll_91 rfl (lv_at hl 0 rfl) ?_
        refine gf_X6_21 X J dX6_readAll_92 ?_
        obtain ⟨r23, σ24, hc, hf⟩ := obd_some hf
        refine zr_callNv (As := []) (rest := []) X J 1 ho_C_X7.1 ho_C_X7.2.1 ho_C_X7.2.2 yy_X7_come mw_methodLinkNest_TinyCReader_81_TinyCScan_come_V_TinyC (d := 1) (zR_ok (by omega) (by decide)) hl.1 rfl (Nat.le_of_ble_eq_true rfl) (tX7_come  hc) dX6_readAll_95 (fun H locs J => ?_)
        refine lv_aload_n hx hb dX6_readAll_98 rfl (lv_at hl 0 rfl) ?_
        refine gf_X6_21 X J dX6_readAll_99 ?_
        refine gf_X6_84 X J dX6_readAll_102 ?_
        refine lv_topi (fun x25 eq => ?_)
        have hf := bnd_eq eq hf
        clear eq
        refine lv_istore_n hx hb dX6_readAll_105 rfl hl (by decide) rfl (fun ls hl => ?_)
        have hl : lv_has ls 6 [(3, .int x25), (0, .ref (ad 2)), (2, .int x2_)] := hl
        refine lv_aload_n hx hb dX6_readAll_106 rfl (lv_at hl 1 rfl) ?_
        refine gf_X6_21 X J dX6_readAll_107 ?_
        refine gf_X6_87 X J dX6_readAll_110 ?_
        refine lv_topl (fun x26 eq => ?_)
        have hf := bnd_eq eq hf
        clear eq
        refine lv_lstore hx hb dX6_readAll_113 hl (by decide) rfl (fun ls hl => ?_)
        have hl : lv_has ls 6 [(4, .long x26), (3, .int x25), (0, .ref (ad 2)), (2, .int x2_)] := hl
        refine lv_aload_n hx hb dX6_readAll_115 rfl (lv_at hl 2 rfl) ?_
        refine lv_iconst (v := (0 : Int32)) hx hb dX6_readAll_116 (by decide) ?_
        obtain ⟨r27, σ28, hc, hf⟩ := obd_some hf
        refine zr_callv (As := [.int (0 : Int32)]) (rest := []) X J 2 ho_C_X6.1 ho_C_X6.2.1 ho_C_X6.2.2 yy_X6_toldName mw_methodLink_TinyCReader_91_TinyCReader_toldName_IV (d := 2) (zR_ok (by omega) (by decide)) hl.1 rfl (Nat.le_of_ble_eq_true rfl) (tX6_toldName  hc) dX6_readAll_117 (fun H locs J => ?_)
        refine lv_aload_n hx hb dX6_readAll_120 rfl (lv_at hl 2 rfl) ?_
        refine gf_X6_21 X J dX6_readAll_121 ?_
        refine gf_X6_78 X J dX6_readAll_124 ?_
        refine lv_bipush (v := (49 : Int32)) hx hb dX6_readAll_127 (by decide) ?_
        refine lv_icmp_ne hx hb dX6_readAll_129 rfl (fun h => ?_) (fun h => ?_)
        · have hf := itn h hf
          refine lv_aload_n hx hb dX6_readAll_150 rfl (lv_at hl 2 rfl) ?_
          refine lv_lload hx hb dX6_readAll_151 (lv_at hl 0 rfl) ?_
          obtain ⟨r29, σ30, hc, hf⟩ := obd_some hf
          refine zr_callv (As := [.long x26]) (rest := []) X J 2 ho_C_X6.1 ho_C_X6.2.1 ho_C_X6.2.2 yy_X6_global mw_methodLink_TinyCReader_105_TinyCReader_global_JV (d := 3) (zR_ok (by omega) (by decide)) hl.1 rfl (Nat.le_of_ble_eq_true rfl) (tX6_global  hc) dX6_readAll_153 (fun H locs J => ?_)
          exact bX6_readAll_156 X ih  J (lv_sub hl [2, 3] rfl) hf
        · have hf := itp h hf
          refine lv_aload_n hx hb dX6_readAll_132 rfl (lv_at hl 2 rfl) ?_
          refine lv_lload hx hb dX6_readAll_133 (lv_at hl 0 rfl) ?_
          refine lv_iload_n hx hb dX6_readAll_135 rfl (lv_at hl 1 rfl) ?_
          obtain ⟨r32, σ33, hc, hf⟩ := obd_some hf
          refine zr_callv (As := [.long x26, .int x25]) (rest := []) X J 2 ho_C_X6.1 ho_C_X6.2.1 ho_C_X6.2.2 yy_X6_openFunction mw_methodLink_TinyCReader_94_TinyCReader_openFunction_JIV (d := 4) (zR_ok (by omega) (by decide)) hl.1 rfl (Nat.le_of_ble_eq_true rfl) (tX6_openFunction  hc) dX6_readAll_136 (fun H locs J => ?_)
          refine lv_aload_n hx hb dX6_readAll_139 rfl (lv_at hl 2 rfl) ?_
          refine lv_aload_n hx hb dX6_readAll_140 rfl (lv_at hl 2 rfl) ?_
          obtain ⟨r34, σ35, hc, hf⟩ := obd_some hf
          refine zr_calli (As := []) (rest := [.ref (ad 2)]) X J 2 ho_C_X6.1 ho_C_X6.2.1 ho_C_X6.2.2 yy_X6_block mw_methodLink_TinyCReader_98_TinyCReader_block_I (d := 6 * M + 7) (zR_ok (by omega) (by decide)) hl.1 rfl (Nat.le_of_ble_eq_true rfl) (tX6_block (dk := 6 * M + 6) (by omega) (tX6_statement ())  hc) dX6_readAll_141 (fun H locs J => ?_)
          obtain ⟨r36, σ37, hc, hf⟩ := obd_some hf
          refine zr_callv (As := [.int r34]) (rest := []) X J 2 ho_C_X6.1 ho_C_X6.2.1 ho_C_X6.2.2 yy_X6_closeFunction mw_methodLink_TinyCReader_102_TinyCReader_closeFunction_IV (d := 2) (zR_ok (by omega) (by decide)) hl.1 rfl (Nat.le_of_ble_eq_true rfl) (tX6_closeFunction  hc) dX6_readAll_144 (fun H locs J => ?_)
          refine lv_goto hx hb dX6_readAll_147 rfl ?_
          exact bX6_readAll_156 X ih  J (lv_sub hl [2, 3] rfl) hf
set_option maxHeartbeats 4000000 in
theorem tX6_readAll {a1_ : Nat} (ha1_ : a1_ = 9 ∨ a1_ = 10) {σ u : zSt} {r : Int32} (hf : fX6_readAll ln N M a1_ σ = some (r, u)) : zMi l yX6_readAll cX6_readAll 6 (some .int) (6 * M + 8) D cy shC ad ts ln [.ref (ad 2), .ref (ad a1_)] σ r u := by
  refine zM_of (by decide) (Nat.le_of_ble_eq_true rfl) (fun p e s m args below meth c ls ha X J hl => ?_)
  have hx := X.1
  have hb := X.2.1
  have hl : lv_has ls 6 [(0, .ref (ad 2)), (1, .ref (ad a1_))] := hl
  generalize s.heap = H at J ⊢
  generalize ([] : List Loc) = locs at J ⊢
  show W p l e (zRm (6 * M + 8)) s m args below meth c H locs 0 0 (zQi D cy shC ad ts ln below args s (r, u)) (F0 m 0 ls [])
  unfold fX6_readAll at hf
  refine lv_aload_n hx hb dX6_readAll_0 rfl (lv_at hl 0 rfl) ?_
  refine lv_aload_n hx hb dX6_readAll_1 rfl (lv_at hl 1 rfl) ?_
  refine pf_X6_36 X J dX6_readAll_2 (fun σ1 H locs eq J => ?_)
  have hf := bnd_eq eq hf
  clear eq
  refine lv_aload_n hx hb dX6_readAll_5 rfl (lv_at hl 0 rfl) ?_
  refine lv_aload_n hx hb dX6_readAll_6 rfl (lv_at hl 1 rfl) ?_
  refine gf_X6_40 ha1_ X J dX6_readAll_7 ?_
  refine pf_X6_46 X J dX6_readAll_10 (fun σ2 H locs eq J => ?_)
  have hf := bnd_eq eq hf
  clear eq
  refine lv_aload_n hx hb dX6_readAll_13 rfl (lv_at hl 0 rfl) ?_
  refine lv_aload_n hx hb dX6_readAll_14 rfl (lv_at hl 1 rfl) ?_
  refine gf_X6_47 ha1_ X J dX6_readAll_15 ?_
  refine pf_X6_51 X J dX6_readAll_18 (fun σ3 H locs eq J => ?_)
  have hf := bnd_eq eq hf
  clear eq
  refine lv_aload_n hx hb dX6_readAll_21 rfl (lv_at hl 1 rfl) ?_
  obtain ⟨r4, σ5, hc, hf⟩ := obd_some hf
  refine zr_callNv (As := []) (rest := []) X J a1_ (ho_C_X5 ha1_).1 (ho_C_X5 ha1_).2.1 (ho_C_X5 ha1_).2.2 yy_X5_clear mw_methodLinkNest_TinyCReader_52_TinyCProgram_clear_V_TinyC (d := 0) (zR_ok (by omega) (by decide)) hl.1 rfl (Nat.le_of_ble_eq_true rfl) (tX5_clear ha1_ hc) dX6_readAll_22 (fun H locs J => ?_)
  refine lv_aload_n hx hb dX6_readAll_25 rfl (lv_at hl 0 rfl) ?_
  refine gf_X6_9 X J dX6_readAll_26 ?_
  obtain ⟨r6, σ7, hc, hf⟩ := obd_some hf
  refine zr_callNv (As := []) (rest := []) X J 3 ho_C_X1.1 ho_C_X1.2.1 ho_C_X1.2.2 yy_X1_begin mw_methodLinkNest_TinyCReader_55_TinyCDesk_begin_V_TinyC (d := 2) (zR_ok (by omega) (by decide)) hl.1 rfl (Nat.le_of_ble_eq_true rfl) (tX1_begin  hc) dX6_readAll_29 (fun H locs J => ?_)
  refine lv_aload_n hx hb dX6_readAll_32 rfl (lv_at hl 0 rfl) ?_
  refine gf_X6_32 X J dX6_readAll_33 ?_
  refine lv_aload_n hx hb dX6_readAll_36 rfl (lv_at hl 1 rfl) ?_
  obtain ⟨r8, σ9, hc, hf⟩ := obd_some hf
  refine zr_callNv (As := [.ref (ad a1_)]) (rest := []) X J 5 ho_C_X2.1 ho_C_X2.2.1 ho_C_X2.2.2 yy_X2_begin mw_methodLinkNest_TinyCReader_58_TinyCExpressions_begin_LTinyCProgramV_TinyC (d := 0) (zR_ok (by omega) (by decide)) hl.1 rfl (Nat.le_of_ble_eq_true rfl) (tX2_begin ha1_ hc) dX6_readAll_37 (fun H locs J => ?_)
  refine lv_aload_n hx hb dX6_readAll_40 rfl (lv_at hl 0 rfl) ?_
  refine gf_X6_21 X J dX6_readAll_41 ?_
  obtain ⟨r10, σ11, hc, hf⟩ := obd_some hf
  refine zr_callNv (As := []) (rest := []) X J 1 ho_C_X7.1 ho_C_X7.2.1 ho_C_X7.2.2 yy_X7_begin mw_methodLinkNest_TinyCReader_61_TinyCScan_begin_V_TinyC (d := 2) (zR_ok (by omega) (by decide)) hl.1 rfl (Nat.le_of_ble_eq_true rfl) (tX7_begin  hc) dX6_readAll_44 (fun H locs J => ?_)
  refine lv_aload_n hx hb dX6_readAll_47 rfl (lv_at hl 0 rfl) ?_
  obtain ⟨q12, hq12, er, hf⟩ := rbd_some hf
  refine gf_X6_51 X J er dX6_readAll_48 ?_
  refine lv_bipush (v := (32 : Int32)) hx hb dX6_readAll_51 (by decide) ?_
  refine lv_iconst (v := (0 : Int32)) hx hb dX6_readAll_53 (by decide) ?_
  refine lv_iconst (v := (0 : Int32)) hx hb dX6_readAll_54 (by decide) ?_
  obtain ⟨r13, σ14, hc, hf⟩ := obd_some hf
  refine zr_callNv (As := [.int (32 : Int32), .int (0 : Int32), .int (0 : Int32)]) (rest := []) X J q12 (ho_C_X0 hq12).1 (ho_C_X0 hq12).2.1 (ho_C_X0 hq12).2.2 yy_X0_addWithTwo mw_methodLinkNest_TinyCReader_64_TinyCCode_addWithTwo_IIIV_TinyC (d := 0) (zR_ok (by omega) (by decide)) hl.1 rfl (Nat.le_of_ble_eq_true rfl) (tX0_addWithTwo hq12 hc) dX6_readAll_55 (fun H locs J => ?_)
  refine lv_aload_n hx hb dX6_readAll_58 rfl (lv_at hl 0 rfl) ?_
  obtain ⟨q15, hq15, er, hf⟩ := rbd_some hf
  refine gf_X6_51 X J er dX6_readAll_59 ?_
  refine lv_iconst (v := (0 : Int32)) hx hb dX6_readAll_62 (by decide) ?_
  obtain ⟨r16, σ17, hc, hf⟩ := obd_some hf
  refine zr_callNv (As := [.int (0 : Int32)]) (rest := []) X J q15 (ho_C_X0 hq15).1 (ho_C_X0 hq15).2.1 (ho_C_X0 hq15).2.2 yy_X0_add mw_methodLinkNest_TinyCReader_70_TinyCCode_add_IV_TinyC (d := 0) (zR_ok (by omega) (by decide)) hl.1 rfl (Nat.le_of_ble_eq_true rfl) (tX0_add hq15 hc) dX6_readAll_63 (fun H locs J => ?_)
  refine lv_iconst (v := (0 : Int32)) hx hb dX6_readAll_66 (by decide) ?_
  refine lv_topi (fun x18 eq => ?_)
  have hf := bnd_eq eq hf
  clear eq
  refine lv_istore_n hx hb dX6_readAll_67 rfl hl (by decide) rfl (fun ls hl => ?_)
  have hl : lv_has ls 6 [(2, .int x18), (0, .ref (ad 2)), (1, .ref (ad a1_))] := hl
  exact bX6_readAll_68 X  N _ _ _ _ _ J (lv_sub hl [1, 0] rfl) hf
set_option maxHeartbeats 4000000 in
theorem tX8_rewind   {σ u : zSt} {r : Unit} (hf : fX8_rewind ln N M  σ = some (r, u)) : zMv l yX8_rewind cX8_rewind 1 none (0) D cy shC ad ts ln [.ref (ad 6)] σ u := by
  refine zM_of (by decide) (Nat.le_of_ble_eq_true rfl) (fun p e s m args below meth c ls ha X J hl => ?_)
  have hx := X.1
  have hb := X.2.1
  have hl : lv_has ls 1 [(0, .ref (ad 6))] := hl
  generalize s.heap = H at J ⊢
  generalize ([] : List Loc) = locs at J ⊢
  show W p l e (zRm (0)) s m args below meth c H locs 0 0 (zQv D cy shC ad ts ln below args s (r, u)) (F0 m 0 ls [])
  unfold fX8_rewind at hf
  refine lv_aload_n hx hb dX8_rewind_0 rfl (lv_at hl 0 rfl) ?_
  refine lv_iconst (v := (0 : Int32)) hx hb dX8_rewind_1 (by decide) ?_
  refine pf_X8_20 X J dX8_rewind_2 (fun σ1 H locs eq J => ?_)
  have hf := bnd_eq eq hf
  clear eq
  refine lv_aload_n hx hb dX8_rewind_5 rfl (lv_at hl 0 rfl) ?_
  refine lv_iconst (v := (0 : Int32)) hx hb dX8_rewind_6 (by decide) ?_
  refine pf_X8_23 X J dX8_rewind_7 (fun σ2 H locs eq J => ?_)
  have hf := bnd_eq eq hf
  clear eq
  exact zr_vret X J hf dX8_rewind_10
set_option maxHeartbeats 4000000 in
theorem tX11_beginAgain   {σ u : zSt} {r : Unit} (hf : fX11_beginAgain ln N M  σ = some (r, u)) : zMv l yX11_beginAgain cX11_beginAgain 1 none (2) D cy shC ad ts ln [.ref (ad 0)] σ u := by
  refine zM_of (by decide) (Nat.le_of_ble_eq_true rfl) (fun p e s m args below meth c ls ha X J hl => ?_)
  have hx := X.1
  have hb := X.2.1
  have hl : lv_has ls 1 [(0, .ref (ad 0))] := hl
  generalize s.heap = H at J ⊢
  generalize ([] : List Loc) = locs at J ⊢
  show W p l e (zRm (2)) s m args below meth c H locs 0 0 (zQv D cy shC ad ts ln below args s (r, u)) (F0 m 0 ls [])
  unfold fX11_beginAgain at hf
  refine lv_aload_n hx hb dX11_beginAgain_0 rfl (lv_at hl 0 rfl) ?_
  refine gf_X11_54 X J dX11_beginAgain_1 ?_
  obtain ⟨r1, σ2, hc, hf⟩ := obd_some hf
  refine zr_callNv (As := []) (rest := []) X J 6 ho_C_X8.1 ho_C_X8.2.1 ho_C_X8.2.2 yy_X8_rewind mw_methodLinkNest_TinyC_136_TinyCTape_rewind_V_TinyC (d := 0) (zR_ok (by omega) (by decide)) hl.1 rfl (Nat.le_of_ble_eq_true rfl) (tX8_rewind  hc) dX11_beginAgain_4 (fun H locs J => ?_)
  refine lv_aload_n hx hb dX11_beginAgain_7 rfl (lv_at hl 0 rfl) ?_
  refine gf_X11_63 X J dX11_beginAgain_8 ?_
  refine lv_aload_n hx hb dX11_beginAgain_11 rfl (lv_at hl 0 rfl) ?_
  obtain ⟨q3, hq3, er, hf⟩ := rbd_some hf
  refine gf_X11_44 X J er dX11_beginAgain_12 ?_
  obtain ⟨r4, σ5, hc, hf⟩ := obd_some hf
  refine zr_callNv (As := [.ref (ad q3)]) (rest := []) X J 7 ho_C_X3.1 ho_C_X3.2.1 ho_C_X3.2.2 yy_X3_begin mw_methodLinkNest_TinyC_74_TinyCMachine_begin_LTinyCProgramV_TinyC (d := 1) (zR_ok (by omega) (by decide)) hl.1 rfl (Nat.le_of_ble_eq_true rfl) (tX3_begin hq3 hc) dX11_beginAgain_15 (fun H locs J => ?_)
  refine lv_aload_n hx hb dX11_beginAgain_18 rfl (lv_at hl 0 rfl) ?_
  refine gf_X11_70 X J dX11_beginAgain_19 ?_
  refine lv_aload_n hx hb dX11_beginAgain_22 rfl (lv_at hl 0 rfl) ?_
  obtain ⟨q6, hq6, er, hf⟩ := rbd_some hf
  refine gf_X11_44 X J er dX11_beginAgain_23 ?_
  obtain ⟨r7, σ8, hc, hf⟩ := obd_some hf
  refine zr_callNv (As := [.ref (ad q6)]) (rest := []) X J 8 ho_C_X10.1 ho_C_X10.2.1 ho_C_X10.2.2 yy_X10_begin mw_methodLinkNest_TinyC_78_TinyCWalker_begin_LTinyCProgramV_TinyC (d := 1) (zR_ok (by omega) (by decide)) hl.1 rfl (Nat.le_of_ble_eq_true rfl) (tX10_begin hq6 hc) dX11_beginAgain_26 (fun H locs J => ?_)
  exact zr_vret X J hf dX11_beginAgain_29
set_option maxHeartbeats 4000000 in
theorem tX11_compile   {σ u : zSt} {r : Int32} (hf : fX11_compile ln N M  σ = some (r, u)) : zMi l yX11_compile cX11_compile 3 (some .int) (6 * M + 9) D cy shC ad ts ln [.ref (ad 0)] σ r u := by
  refine zM_of (by decide) (Nat.le_of_ble_eq_true rfl) (fun p e s m args below meth c ls ha X J hl => ?_)
  have hx := X.1
  have hb := X.2.1
  have hl : lv_has ls 3 [(0, .ref (ad 0))] := hl
  generalize s.heap = H at J ⊢
  generalize ([] : List Loc) = locs at J ⊢
  show W p l e (zRm (6 * M + 9)) s m args below meth c H locs 0 0 (zQi D cy shC ad ts ln below args s (r, u)) (F0 m 0 ls [])
  unfold fX11_compile at hf
  refine lv_aload_n hx hb dX11_compile_0 rfl (lv_at hl 0 rfl) ?_
  refine gf_X11_35 X J dX11_compile_1 ?_
  refine lv_aload_n hx hb dX11_compile_4 rfl (lv_at hl 0 rfl) ?_
  obtain ⟨q1, hq1, er, hf⟩ := rbd_some hf
  refine gf_X11_48 X J er dX11_compile_5 ?_
  obtain ⟨r2, σ3, hc, hf⟩ := obd_some hf
  refine zr_callNi (As := [.ref (ad q1)]) (rest := []) X J 2 ho_C_X6.1 ho_C_X6.2.1 ho_C_X6.2.2 yy_X6_readAll mw_methodLinkNest_TinyC_92_TinyCReader_readAll_LTinyCProgramI_TinyC (d := 6 * M + 8) (zR_ok (by omega) (by decide)) hl.1 rfl (Nat.le_of_ble_eq_true rfl) (tX6_readAll hq1 hc) dX11_compile_8 (fun H locs J => ?_)
  refine lv_istore_n hx hb dX11_compile_11 rfl hl (by decide) rfl (fun ls hl => ?_)
  have hl : lv_has ls 3 [(1, .int r2), (0, .ref (ad 0))] := hl
  refine lv_iload_n hx hb dX11_compile_12 rfl (lv_at hl 0 rfl) ?_
  refine lv_if_eq hx hb dX11_compile_13 rfl (fun h => ?_) (fun h => ?_)
  · have hf := itp h hf
    refine lv_aload_n hx hb dX11_compile_18 rfl (lv_at hl 1 rfl) ?_
    obtain ⟨q4, hq4, er, hf⟩ := rbd_some hf
    refine gf_X11_48 X J er dX11_compile_19 ?_
    refine lv_astore_n hx hb dX11_compile_22 rfl hl (by decide) rfl (fun ls hl => ?_)
    have hl : lv_has ls 3 [(2, .ref (ad q4)), (1, .int r2), (0, .ref (ad 0))] := hl
    refine lv_aload_n hx hb dX11_compile_23 rfl (lv_at hl 2 rfl) ?_
    refine lv_aload_n hx hb dX11_compile_24 rfl (lv_at hl 2 rfl) ?_
    obtain ⟨q5, hq5, er, hf⟩ := rbd_some hf
    refine gf_X11_44 X J er dX11_compile_25 ?_
    refine pf_X11_48 X J dX11_compile_28 (fun σ6 H locs eq J => ?_)
    have hf := bnd_eq eq hf
    clear eq
    refine lv_aload_n hx hb dX11_compile_31 rfl (lv_at hl 2 rfl) ?_
    refine lv_aload_n hx hb dX11_compile_32 rfl (lv_at hl 0 rfl) ?_
    refine pf_X11_44 X J dX11_compile_33 (fun σ7 H locs eq J => ?_)
    have hf := bnd_eq eq hf
    clear eq
    refine lv_aload_n hx hb dX11_compile_36 rfl (lv_at hl 2 rfl) ?_
    obtain ⟨r8, σ9, hc, hf⟩ := obd_some hf
    refine zr_callv (As := []) (rest := []) X J 0 ho_C_X11.1 ho_C_X11.2.1 ho_C_X11.2.2 yy_X11_beginAgain mw_methodLink_TinyC_96_TinyC_beginAgain_V (d := 2) (zR_ok (by omega) (by decide)) hl.1 rfl (Nat.le_of_ble_eq_true rfl) (tX11_beginAgain  hc) dX11_compile_37 (fun H locs J => ?_)
    refine lv_iconst (v := (0 : Int32)) hx hb dX11_compile_40 (by decide) ?_
    exact zr_iret X J hf dX11_compile_41
  · have hf := itn h hf
    refine lv_iload_n hx hb dX11_compile_16 rfl (lv_at hl 0 rfl) ?_
    exact zr_iret X J hf dX11_compile_17
set_option maxHeartbeats 4000000 in
theorem tX8_putInput {a1_ : Int32}  {σ u : zSt} {r : Int32} (hf : fX8_putInput ln N M a1_ σ = some (r, u)) : zMi l yX8_putInput cX8_putInput 2 (some .boolean) (0) D cy shC ad ts ln [.ref (ad 6), .int a1_] σ r u := by
  refine zM_of (by decide) (Nat.le_of_ble_eq_true rfl) (fun p e s m args below meth c ls ha X J hl => ?_)
  have hx := X.1
  have hb := X.2.1
  have hl : lv_has ls 2 [(0, .ref (ad 6)), (1, .int a1_)] := hl
  generalize s.heap = H at J ⊢
  generalize ([] : List Loc) = locs at J ⊢
  show W p l e (zRm (0)) s m args below meth c H locs 0 0 (zQi D cy shC ad ts ln below args s (r, u)) (F0 m 0 ls [])
  unfold fX8_putInput at hf
  refine lv_aload_n hx hb dX8_putInput_0 rfl (lv_at hl 0 rfl) ?_
  refine gf_X8_16 X J dX8_putInput_1 ?_
  refine lv_aload_n hx hb dX8_putInput_4 rfl (lv_at hl 0 rfl) ?_
  refine gf_X8_7 X J dX8_putInput_5 ?_
  refine an_X8_X8f0 X J dX8_putInput_8 ?_
  refine lv_icmp_lt hx hb dX8_putInput_9 rfl (fun h => ?_) (fun h => ?_)
  · have hf := itp h hf
    refine lv_aload_n hx hb dX8_putInput_14 rfl (lv_at hl 0 rfl) ?_
    refine gf_X8_7 X J dX8_putInput_15 ?_
    refine lv_aload_n hx hb dX8_putInput_18 rfl (lv_at hl 0 rfl) ?_
    refine gf_X8_16 X J dX8_putInput_19 ?_
    refine lv_iload_n hx hb dX8_putInput_22 rfl (lv_at hl 1 rfl) ?_
    obtain ⟨hin, hf⟩ := itx hf
    refine as_X8_X8f0 X J hin dX8_putInput_23 (fun σ1 H locs eq J => ?_)
    have hf := bnd_eq eq hf
    clear eq
    refine lv_aload_n hx hb dX8_putInput_24 rfl (lv_at hl 0 rfl) ?_
    refine lv_dup hx hb dX8_putInput_25 rfl ?_
    refine gf_X8_16 X J dX8_putInput_26 ?_
    refine lv_iconst (v := (1 : Int32)) hx hb dX8_putInput_29 (by decide) ?_
    refine lv_iadd hx hb dX8_putInput_30 ?_
    refine pf_X8_16 X J dX8_putInput_31 (fun σ2 H locs eq J => ?_)
    have hf := bnd_eq eq hf
    clear eq
    refine lv_iconst (v := (1 : Int32)) hx hb dX8_putInput_34 (by decide) ?_
    exact zr_zretc X J (by decide) hf dX8_putInput_35
  · have hf := itn h hf
    refine lv_iconst (v := (0 : Int32)) hx hb dX8_putInput_12 (by decide) ?_
    exact zr_zretc X J (by decide) hf dX8_putInput_13
set_option maxHeartbeats 4000000 in
theorem tX11_input {a1_ : Int32}  {σ u : zSt} {r : Int32} (hf : fX11_input ln N M a1_ σ = some (r, u)) : zMi l yX11_input cX11_input 2 (some .int) (1) D cy shC ad ts ln [.ref (ad 0), .int a1_] σ r u := by
  refine zM_of (by decide) (Nat.le_of_ble_eq_true rfl) (fun p e s m args below meth c ls ha X J hl => ?_)
  have hx := X.1
  have hb := X.2.1
  have hl : lv_has ls 2 [(0, .ref (ad 0)), (1, .int a1_)] := hl
  generalize s.heap = H at J ⊢
  generalize ([] : List Loc) = locs at J ⊢
  show W p l e (zRm (1)) s m args below meth c H locs 0 0 (zQi D cy shC ad ts ln below args s (r, u)) (F0 m 0 ls [])
  unfold fX11_input at hf
  refine lv_aload_n hx hb dX11_input_0 rfl (lv_at hl 0 rfl) ?_
  refine gf_X11_54 X J dX11_input_1 ?_
  refine lv_iload_n hx hb dX11_input_4 rfl (lv_at hl 1 rfl) ?_
  obtain ⟨r1, σ2, hc, hf⟩ := obd_some hf
  refine zr_callNi (As := [.int a1_]) (rest := []) X J 6 ho_C_X8.1 ho_C_X8.2.1 ho_C_X8.2.2 yy_X8_putInput mw_methodLinkNest_TinyC_99_TinyCTape_putInput_IZ_TinyC (d := 0) (zR_ok (by omega) (by decide)) hl.1 rfl (Nat.le_of_ble_eq_true rfl) (tX8_putInput  hc) dX11_input_5 (fun H locs J => ?_)
  refine lv_if_eq hx hb dX11_input_8 rfl (fun h => ?_) (fun h => ?_)
  · have hf := itp h hf
    refine lv_iconst (v := (1 : Int32)) hx hb dX11_input_15 (by decide) ?_
    exact zr_iret X J hf dX11_input_16
  · have hf := itn h hf
    refine lv_iconst (v := (0 : Int32)) hx hb dX11_input_11 (by decide) ?_
    refine lv_goto hx hb dX11_input_12 rfl ?_
    exact zr_iret X J hf dX11_input_16
set_option maxHeartbeats 4000000 in
theorem tX0_at {q_ : Nat} (hq_ : q_ = 13 ∨ q_ = 14) {a1_ : Int32}  {σ u : zSt} {r : Int32} (hf : fX0_at ln N M q_ a1_ σ = some (r, u)) : zMi l yX0_at cX0_at 2 (some .int) (0) D cy shC ad ts ln [.ref (ad q_), .int a1_] σ r u := by
  refine zM_of (by decide) (Nat.le_of_ble_eq_true rfl) (fun p e s m args below meth c ls ha X J hl => ?_)
  have hx := X.1
  have hb := X.2.1
  have hl : lv_has ls 2 [(0, .ref (ad q_)), (1, .int a1_)] := hl
  generalize s.heap = H at J ⊢
  generalize ([] : List Loc) = locs at J ⊢
  show W p l e (zRm (0)) s m args below meth c H locs 0 0 (zQi D cy shC ad ts ln below args s (r, u)) (F0 m 0 ls [])
  unfold fX0_at at hf
  refine lv_iload_n hx hb dX0_at_0 rfl (lv_at hl 1 rfl) ?_
  refine lv_if_lt hx hb dX0_at_1 rfl (fun h => ?_) (fun h => ?_)
  · have hf := itp h hf
    refine lv_iconst (v := (-1 : Int32)) hx hb dX0_at_30 (by decide) ?_
    exact zr_iret X J hf dX0_at_31
  · have hf := itn h hf
    refine lv_iload_n hx hb dX0_at_4 rfl (lv_at hl 1 rfl) ?_
    refine lv_aload_n hx hb dX0_at_5 rfl (lv_at hl 0 rfl) ?_
    refine gf_X0_13 hq_ X J dX0_at_6 ?_
    refine lv_icmp_ge hx hb dX0_at_9 rfl (fun h => ?_) (fun h => ?_)
    · have hf := itp h hf
      refine lv_iconst (v := (-1 : Int32)) hx hb dX0_at_30 (by decide) ?_
      exact zr_iret X J hf dX0_at_31
    · have hf := itn h hf
      refine lv_iload_n hx hb dX0_at_12 rfl (lv_at hl 1 rfl) ?_
      refine lv_aload_n hx hb dX0_at_13 rfl (lv_at hl 0 rfl) ?_
      refine gf_X0_7 hq_ X J dX0_at_14 ?_
      refine an_X0_X0f0 hq_ X J dX0_at_17 ?_
      refine lv_icmp_ge hx hb dX0_at_18 rfl (fun h => ?_) (fun h => ?_)
      · have hf := itp h hf
        refine lv_iconst (v := (-1 : Int32)) hx hb dX0_at_30 (by decide) ?_
        exact zr_iret X J hf dX0_at_31
      · have hf := itn h hf
        refine lv_aload_n hx hb dX0_at_21 rfl (lv_at hl 0 rfl) ?_
        refine gf_X0_7 hq_ X J dX0_at_22 ?_
        refine lv_iload_n hx hb dX0_at_25 rfl (lv_at hl 1 rfl) ?_
        obtain ⟨hin, hf⟩ := itx hf
        refine al_X0_X0f0 hq_ X J hin dX0_at_26 ?_
        refine lv_goto hx hb dX0_at_27 rfl ?_
        exact zr_iret X J hf dX0_at_31
set_option maxHeartbeats 4000000 in
theorem tX3_load {a1_ : Int32}  {σ u : zSt} {r : Int32} (hf : fX3_load ln N M a1_ σ = some (r, u)) : zMi l yX3_load cX3_load 2 (some .int) (0) D cy shC ad ts ln [.ref (ad 7), .int a1_] σ r u := by
  refine zM_of (by decide) (Nat.le_of_ble_eq_true rfl) (fun p e s m args below meth c ls ha X J hl => ?_)
  have hx := X.1
  have hb := X.2.1
  have hl : lv_has ls 2 [(0, .ref (ad 7)), (1, .int a1_)] := hl
  generalize s.heap = H at J ⊢
  generalize ([] : List Loc) = locs at J ⊢
  show W p l e (zRm (0)) s m args below meth c H locs 0 0 (zQi D cy shC ad ts ln below args s (r, u)) (F0 m 0 ls [])
  unfold fX3_load at hf
  refine lv_iload_n hx hb dX3_load_0 rfl (lv_at hl 1 rfl) ?_
  refine lv_if_lt hx hb dX3_load_1 rfl (fun h => ?_) (fun h => ?_)
  · have hf := itp h hf
    refine lv_iconst (v := (0 : Int32)) hx hb dX3_load_22 (by decide) ?_
    exact zr_iret X J hf dX3_load_23
  · have hf := itn h hf
    refine lv_iload_n hx hb dX3_load_4 rfl (lv_at hl 1 rfl) ?_
    refine lv_aload_n hx hb dX3_load_5 rfl (lv_at hl 0 rfl) ?_
    refine gf_X3_9 X J dX3_load_6 ?_
    refine an_X3_X3f0 X J dX3_load_9 ?_
    refine lv_icmp_ge hx hb dX3_load_10 rfl (fun h => ?_) (fun h => ?_)
    · have hf := itp h hf
      refine lv_iconst (v := (0 : Int32)) hx hb dX3_load_22 (by decide) ?_
      exact zr_iret X J hf dX3_load_23
    · have hf := itn h hf
      refine lv_aload_n hx hb dX3_load_13 rfl (lv_at hl 0 rfl) ?_
      refine gf_X3_9 X J dX3_load_14 ?_
      refine lv_iload_n hx hb dX3_load_17 rfl (lv_at hl 1 rfl) ?_
      obtain ⟨hin, hf⟩ := itx hf
      refine al_X3_X3f0 X J hin dX3_load_18 ?_
      refine lv_goto hx hb dX3_load_19 rfl ?_
      exact zr_iret X J hf dX3_load_23
set_option maxHeartbeats 4000000 in
theorem tX3_pop   {σ u : zSt} {r : Int32} (hf : fX3_pop ln N M  σ = some (r, u)) : zMi l yX3_pop cX3_pop 1 (some .int) (1) D cy shC ad ts ln [.ref (ad 7)] σ r u := by
  refine zM_of (by decide) (Nat.le_of_ble_eq_true rfl) (fun p e s m args below meth c ls ha X J hl => ?_)
  have hx := X.1
  have hb := X.2.1
  have hl : lv_has ls 1 [(0, .ref (ad 7))] := hl
  generalize s.heap = H at J ⊢
  generalize ([] : List Loc) = locs at J ⊢
  show W p l e (zRm (1)) s m args below meth c H locs 0 0 (zQi D cy shC ad ts ln below args s (r, u)) (F0 m 0 ls [])
  unfold fX3_pop at hf
  refine lv_aload_n hx hb dX3_pop_0 rfl (lv_at hl 0 rfl) ?_
  refine lv_dup hx hb dX3_pop_1 rfl ?_
  refine gf_X3_39 X J dX3_pop_2 ?_
  refine lv_iconst (v := (1 : Int32)) hx hb dX3_pop_5 (by decide) ?_
  refine lv_isub hx hb dX3_pop_6 ?_
  refine pf_X3_39 X J dX3_pop_7 (fun σ1 H locs eq J => ?_)
  have hf := bnd_eq eq hf
  clear eq
  refine lv_aload_n hx hb dX3_pop_10 rfl (lv_at hl 0 rfl) ?_
  refine lv_aload_n hx hb dX3_pop_11 rfl (lv_at hl 0 rfl) ?_
  refine gf_X3_39 X J dX3_pop_12 ?_
  obtain ⟨r2, σ3, hc, hf⟩ := obd_some hf
  refine zr_calli (As := [.int (zI σ1 7 4)]) (rest := []) X J 7 ho_C_X3.1 ho_C_X3.2.1 ho_C_X3.2.2 yy_X3_load mw_methodLink_TinyCMachine_82_TinyCMachine_load_II (d := 0) (zR_ok (by omega) (by decide)) hl.1 rfl (Nat.le_of_ble_eq_true rfl) (tX3_load  hc) dX3_pop_15 (fun H locs J => ?_)
  exact zr_iret X J hf dX3_pop_18
set_option maxHeartbeats 4000000 in
theorem tX11_ofOne {a0_ : Int32} {a1_ : Int32}  {σ u : zSt} {r : Int32} (hf : fX11_ofOne ln N M a0_ a1_ σ = some (r, u)) : zMi l yX11_ofOne cX11_ofOne 2 (some .int) (0) D cy shC ad ts ln [.int a0_, .int a1_] σ r u := by
  refine zM_of (by decide) (Nat.le_of_ble_eq_true rfl) (fun p e s m args below meth c ls ha X J hl => ?_)
  have hx := X.1
  have hb := X.2.1
  have hl : lv_has ls 2 [(0, .int a0_), (1, .int a1_)] := hl
  generalize s.heap = H at J ⊢
  generalize ([] : List Loc) = locs at J ⊢
  show W p l e (zRm (0)) s m args below meth c H locs 0 0 (zQi D cy shC ad ts ln below args s (r, u)) (F0 m 0 ls [])
  unfold fX11_ofOne at hf
  refine lv_iload_n hx hb dX11_ofOne_0 rfl (lv_at hl 0 rfl) ?_
  refine lv_bipush (v := (24 : Int32)) hx hb dX11_ofOne_1 (by decide) ?_
  refine lv_icmp_ne hx hb dX11_ofOne_3 rfl (fun h => ?_) (fun h => ?_)
  · have hf := itn h hf
    refine lv_iload_n hx hb dX11_ofOne_9 rfl (lv_at hl 0 rfl) ?_
    refine lv_bipush (v := (25 : Int32)) hx hb dX11_ofOne_10 (by decide) ?_
    refine lv_icmp_ne hx hb dX11_ofOne_12 rfl (fun h => ?_) (fun h => ?_)
    · have hf := itn h hf
      refine lv_iload_n hx hb dX11_ofOne_25 rfl (lv_at hl 1 rfl) ?_
      refine lv_iconst (v := (-1 : Int32)) hx hb dX11_ofOne_26 (by decide) ?_
      refine lv_ixor hx hb dX11_ofOne_27 ?_
      exact zr_iret X J hf dX11_ofOne_28
    · have hf := itp h hf
      refine lv_iload_n hx hb dX11_ofOne_15 rfl (lv_at hl 1 rfl) ?_
      refine lv_if_ne hx hb dX11_ofOne_16 rfl (fun h => ?_) (fun h => ?_)
      · have hf := itn h hf
        refine lv_iconst (v := (0 : Int32)) hx hb dX11_ofOne_23 (by decide) ?_
        exact zr_iret X J hf dX11_ofOne_24
      · have hf := itp h hf
        refine lv_iconst (v := (1 : Int32)) hx hb dX11_ofOne_19 (by decide) ?_
        refine lv_goto hx hb dX11_ofOne_20 rfl ?_
        exact zr_iret X J hf dX11_ofOne_24
  · have hf := itp h hf
    refine lv_iload_n hx hb dX11_ofOne_6 rfl (lv_at hl 1 rfl) ?_
    refine lv_ineg hx hb dX11_ofOne_7 ?_
    exact zr_iret X J hf dX11_ofOne_8
set_option maxHeartbeats 4000000 in
theorem bX3_push_42 {o : Unit × zSt} (X : zX p s m args meth c D cy shC ad ts cX3_push 2 none RX3)    {σ : zSt} {H : Heap} {locs : List Loc} {ls : Array Slot} (J : zJ D cy shC ad ln s σ H locs) (hl : lv_has ls 2 [(0, .ref (ad 7))]) (hf : fX3_push_b42 ln N M   σ = some o) : W p l e (zRm (0)) s m args below meth c H locs 0 0 (zQv D cy shC ad ts ln below args s o) (F0 m 42 ls []) := by
  have hx := X.1
  have hb := X.2.1
  unfold fX3_push_b42 at hf
  refine lv_aload_n hx hb dX3_push_42 rfl (lv_at hl 0 rfl) ?_
  refine lv_iconst (v := (4 : Int32)) hx hb dX3_push_43 (by decide) ?_
  refine pf_X3_45 X J dX3_push_44 (fun σ1 H locs eq J => ?_)
  have hf := bnd_eq eq hf
  clear eq
  exact zr_vret X J hf dX3_push_47
set_option maxHeartbeats 4000000 in
theorem tX3_push {a1_ : Int32}  {σ u : zSt} {r : Unit} (hf : fX3_push ln N M a1_ σ = some (r, u)) : zMv l yX3_push cX3_push 2 none (0) D cy shC ad ts ln [.ref (ad 7), .int a1_] σ u := by
  refine zM_of (by decide) (Nat.le_of_ble_eq_true rfl) (fun p e s m args below meth c ls ha X J hl => ?_)
  have hx := X.1
  have hb := X.2.1
  have hl : lv_has ls 2 [(0, .ref (ad 7)), (1, .int a1_)] := hl
  generalize s.heap = H at J ⊢
  generalize ([] : List Loc) = locs at J ⊢
  show W p l e (zRm (0)) s m args below meth c H locs 0 0 (zQv D cy shC ad ts ln below args s (r, u)) (F0 m 0 ls [])
  unfold fX3_push at hf
  refine lv_aload_n hx hb dX3_push_0 rfl (lv_at hl 0 rfl) ?_
  refine gf_X3_39 X J dX3_push_1 ?_
  refine lv_if_lt hx hb dX3_push_4 rfl (fun h => ?_) (fun h => ?_)
  · have hf := itp h hf
    exact bX3_push_42 X   J (lv_sub hl [0] rfl) hf
  · have hf := itn h hf
    refine lv_aload_n hx hb dX3_push_7 rfl (lv_at hl 0 rfl) ?_
    refine gf_X3_39 X J dX3_push_8 ?_
    refine lv_aload_n hx hb dX3_push_11 rfl (lv_at hl 0 rfl) ?_
    refine gf_X3_9 X J dX3_push_12 ?_
    refine an_X3_X3f0 X J dX3_push_15 ?_
    refine lv_icmp_ge hx hb dX3_push_16 rfl (fun h => ?_) (fun h => ?_)
    · have hf := itp h hf
      exact bX3_push_42 X   J (lv_sub hl [0] rfl) hf
    · have hf := itn h hf
      refine lv_aload_n hx hb dX3_push_19 rfl (lv_at hl 0 rfl) ?_
      refine gf_X3_9 X J dX3_push_20 ?_
      refine lv_aload_n hx hb dX3_push_23 rfl (lv_at hl 0 rfl) ?_
      refine gf_X3_39 X J dX3_push_24 ?_
      refine lv_iload_n hx hb dX3_push_27 rfl (lv_at hl 1 rfl) ?_
      obtain ⟨hin, hf⟩ := itx hf
      refine as_X3_X3f0 X J hin dX3_push_28 (fun σ2 H locs eq J => ?_)
      have hf := bnd_eq eq hf
      clear eq
      refine lv_aload_n hx hb dX3_push_29 rfl (lv_at hl 0 rfl) ?_
      refine lv_dup hx hb dX3_push_30 rfl ?_
      refine gf_X3_39 X J dX3_push_31 ?_
      refine lv_iconst (v := (1 : Int32)) hx hb dX3_push_34 (by decide) ?_
      refine lv_iadd hx hb dX3_push_35 ?_
      refine pf_X3_39 X J dX3_push_36 (fun σ3 H locs eq J => ?_)
      have hf := bnd_eq eq hf
      clear eq
      refine lv_goto hx hb dX3_push_39 rfl ?_
      exact zr_vret X J hf dX3_push_47
end
