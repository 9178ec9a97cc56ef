section
variable {p : Program} {l : Launch} {e : Env} {s : State} {m : MethodId} {args : Array Value} {below : List Frame} {meth : Method} {c : Code} {D : va_G} {cy : Nat → ClassId} {ad ts : Nat → Nat} {ln : Nat → Nat} {N M : Nat}
set_option maxHeartbeats 4000000 in
theorem bX2_number_37 {o : Int32 × zSt} (X : zX p s m args meth c D cy shC ad ts cX2_number 2 (some .int) RX2)    {σ : zSt} {H : Heap} {locs : List Loc} {ls : Array Slot} (J : zJ D cy shC ad ln s σ H locs) (hl : lv_has ls 2 [(0, .ref (ad 5))]) (hf : fX2_number_b37 ln N M   σ = some o) : W p l e (zRm (2)) s m args below meth c H locs 0 0 (zQi D cy shC ad ts ln below args s o) (F0 m 37 ls []) := by
  have hx := X.1
  have hb := X.2.1
  unfold fX2_number_b37 at hf
  refine lv_aload_n hx hb dX2_number_37 rfl (lv_at hl 0 rfl) ?_
  refine gf_X2_21 X J dX2_number_38 ?_
  refine gf_X2_151 X J dX2_number_41 ?_
  refine lv_l2i hx hb dX2_number_44 rfl ?_
  refine lv_topi (fun x3 eq => ?_)
  have hf := bnd_eq eq hf
  clear eq
  refine lv_istore_n hx hb dX2_number_45 rfl hl (by decide) rfl (fun ls hl => ?_)
  have hl : lv_has ls 2 [(1, .int x3), (0, .ref (ad 5))] := hl
  refine lv_aload_n hx hb dX2_number_46 rfl (lv_at hl 1 rfl) ?_
  obtain ⟨q4, hq4, er, hf⟩ := rbd_some hf
  refine gf_X2_48 X J er dX2_number_47 ?_
  refine lv_iconst (v := (1 : Int32)) hx hb dX2_number_50 (by decide) ?_
  refine lv_iload_n hx hb dX2_number_51 rfl (lv_at hl 0 rfl) ?_
  obtain ⟨r5, σ6, hc, hf⟩ := obd_some hf
  refine zr_callNv (As := [.int (1 : Int32), .int x3]) (rest := []) X J q4 (ho_C_X0 hq4).1 (ho_C_X0 hq4).2.1 (ho_C_X0 hq4).2.2 yy_X0_addWith mw_methodLinkNest_TinyCExpressions_129_TinyCCode_addWith_IIV_TinyC (d := 0) (zR_ok (by omega) (by decide)) hl.1 rfl (Nat.le_of_ble_eq_true rfl) (tX0_addWith hq4 hc) dX2_number_52 (fun H locs J => ?_)
  refine lv_aload_n hx hb dX2_number_55 rfl (lv_at hl 1 rfl) ?_
  refine gf_X2_21 X J dX2_number_56 ?_
  obtain ⟨r7, σ8, hc, hf⟩ := obd_some hf
  refine zr_callNv (As := []) (rest := []) X J 1 ho_C_X7.1 ho_C_X7.2.1 ho_C_X7.2.2 yy_X7_come mw_methodLinkNest_TinyCExpressions_90_TinyCScan_come_V_TinyC (d := 1) (zR_ok (by omega) (by decide)) hl.1 rfl (Nat.le_of_ble_eq_true rfl) (tX7_come  hc) dX2_number_59 (fun H locs J => ?_)
  refine lv_aload_n hx hb dX2_number_62 rfl (lv_at hl 1 rfl) ?_
  obtain ⟨q9, hq9, er, hf⟩ := rbd_some hf
  refine gf_X2_43 X J er dX2_number_63 ?_
  refine lv_iconst (v := (1 : Int32)) hx hb dX2_number_66 (by decide) ?_
  refine lv_iload_n hx hb dX2_number_67 rfl (lv_at hl 0 rfl) ?_
  refine lv_iconst (v := (-1 : Int32)) hx hb dX2_number_68 (by decide) ?_
  refine lv_iconst (v := (-1 : Int32)) hx hb dX2_number_69 (by decide) ?_
  obtain ⟨r10, σ11, hc, hf⟩ := obd_some hf
  refine zr_callNi (As := [.int (1 : Int32), .int x3, .int (-1 : Int32), .int (-1 : Int32)]) (rest := []) X J q9 (ho_C_X9 hq9).1 (ho_C_X9 hq9).2.1 (ho_C_X9 hq9).2.2 yy_X9_add mw_methodLinkNest_TinyCExpressions_116_TinyCTree_add_IIIII_TinyC (d := 0) (zR_ok (by omega) (by decide)) hl.1 rfl (Nat.le_of_ble_eq_true rfl) (tX9_add hq9 hc) dX2_number_70 (fun H locs J => ?_)
  exact zr_iret X J hf dX2_number_73
set_option maxHeartbeats 4000000 in
theorem tX2_number   {σ u : zSt} {r : Int32} (hf : fX2_number ln N M  σ = some (r, u)) : zMi l yX2_number cX2_number 2 (some .int) (2) D cy shC ad ts ln [.ref (ad 5)] σ r u := by
  refine zM_of (by decide) (Nat.le_of_ble_eq_true rfl) (fun p e s m args below meth c ls ha X J hl => ?_)
  have hx := X.1
  have hb := X.2.1
  have hl : lv_has ls 2 [(0, .ref (ad 5))] := hl
  generalize s.heap = H at J ⊢
  generalize ([] : List Loc) = locs at J ⊢
  show W p l e (zRm (2)) s m args below meth c H locs 0 0 (zQi D cy shC ad ts ln below args s (r, u)) (F0 m 0 ls [])
  unfold fX2_number at hf
  refine lv_aload_n hx hb dX2_number_0 rfl (lv_at hl 0 rfl) ?_
  refine gf_X2_9 X J dX2_number_1 ?_
  refine lv_aload_n hx hb dX2_number_4 rfl (lv_at hl 0 rfl) ?_
  refine gf_X2_21 X J dX2_number_5 ?_
  refine gf_X2_99 X J dX2_number_8 ?_
  obtain ⟨r1, σ2, hc, hf⟩ := obd_some hf
  refine zr_callNv (As := [.int (zI σ 1 4)]) (rest := []) X J 3 ho_C_X1.1 ho_C_X1.2.1 ho_C_X1.2.2 yy_X1_takeCells mw_methodLinkNest_TinyCExpressions_102_TinyCDesk_takeCells_IV_TinyC (d := 1) (zR_ok (by omega) (by decide)) hl.1 rfl (Nat.le_of_ble_eq_true rfl) (tX1_takeCells  hc) dX2_number_11 (fun H locs J => ?_)
  refine lv_aload_n hx hb dX2_number_14 rfl (lv_at hl 0 rfl) ?_
  refine gf_X2_21 X J dX2_number_15 ?_
  refine gf_X2_151 X J dX2_number_18 ?_
  refine lv_ldc2 (v := (2147483647 : Int64)) hx hb X.2.2.2.1 (X.2.2.2.2.1 _ mw_constantLong_TinyCExpressions_154) dX2_number_21 ?_
  refine W.lcmp hx hb dX2_number_24 ?_
  refine lv_if_le hx hb dX2_number_25 rfl (fun h => ?_) (fun h => ?_)
  · have hf := itp h hf
    exact bX2_number_37 X   J (lv_sub hl [0] rfl) hf
  · have hf := itn h hf
    refine lv_aload_n hx hb dX2_number_28 rfl (lv_at hl 0 rfl) ?_
    refine gf_X2_21 X J dX2_number_29 ?_
    refine lv_bipush (v := (11 : Int32)) hx hb dX2_number_32 (by decide) ?_
    obtain ⟨r12, σ13, hc, hf⟩ := obd_some hf
    refine zr_callNv (As := [.int (11 : Int32)]) (rest := []) X J 1 ho_C_X7.1 ho_C_X7.2.1 ho_C_X7.2.2 yy_X7_failHere mw_methodLinkNest_TinyCExpressions_122_TinyCScan_failHere_IV_TinyC (d := 0) (zR_ok (by omega) (by decide)) hl.1 rfl (Nat.le_of_ble_eq_true rfl) (tX7_failHere  hc) dX2_number_34 (fun H locs J => ?_)
    exact bX2_number_37 X   J (lv_sub hl [0] rfl) hf
set_option maxHeartbeats 4000000 in
theorem tX4_isSort {a1_ : Int32} {a2_ : Int32}  {σ u : zSt} {r : Int32} (hf : fX4_isSort ln N M a1_ a2_ σ = some (r, u)) : zMi l yX4_isSort cX4_isSort 3 (some .boolean) (0) D cy shC ad ts ln [.ref (ad 4), .int a1_, .int a2_] σ r u := by
  refine zM_of (by decide) (Nat.le_of_ble_eq_true rfl) (fun p e s m args below meth c ls ha X J hl => ?_)
  have hx := X.1
  have hb := X.2.1
  have hl : lv_has ls 3 [(0, .ref (ad 4)), (1, .int a1_), (2, .int a2_)] := hl
  generalize s.heap = H at J ⊢
  generalize ([] : List Loc) = locs at J ⊢
  show W p l e (zRm (0)) s m args below meth c H locs 0 0 (zQi D cy shC ad ts ln below args s (r, u)) (F0 m 0 ls [])
  unfold fX4_isSort at hf
  refine lv_iload_n hx hb dX4_isSort_0 rfl (lv_at hl 1 rfl) ?_
  refine lv_if_lt hx hb dX4_isSort_1 rfl (fun h => ?_) (fun h => ?_)
  · have hf := itp h hf
    refine lv_iconst (v := (0 : Int32)) hx hb dX4_isSort_26 (by decide) ?_
    exact zr_zretc X J (by decide) hf dX4_isSort_27
  · have hf := itn h hf
    refine lv_iload_n hx hb dX4_isSort_4 rfl (lv_at hl 1 rfl) ?_
    refine lv_aload_n hx hb dX4_isSort_5 rfl (lv_at hl 0 rfl) ?_
    refine gf_X4_26 X J dX4_isSort_6 ?_
    refine lv_icmp_ge hx hb dX4_isSort_9 rfl (fun h => ?_) (fun h => ?_)
    · have hf := itp h hf
      refine lv_iconst (v := (0 : Int32)) hx hb dX4_isSort_26 (by decide) ?_
      exact zr_zretc X J (by decide) hf dX4_isSort_27
    · have hf := itn h hf
      refine lv_aload_n hx hb dX4_isSort_12 rfl (lv_at hl 0 rfl) ?_
      refine gf_X4_13 X J dX4_isSort_13 ?_
      refine lv_iload_n hx hb dX4_isSort_16 rfl (lv_at hl 1 rfl) ?_
      obtain ⟨hin, hf⟩ := itx hf
      refine al_X4_X4f1 X J hin dX4_isSort_17 ?_
      refine lv_iload_n hx hb dX4_isSort_18 rfl (lv_at hl 2 rfl) ?_
      refine lv_icmp_ne hx hb dX4_isSort_19 rfl (fun h => ?_) (fun h => ?_)
      · have hf := itn h hf
        refine lv_iconst (v := (0 : Int32)) hx hb dX4_isSort_26 (by decide) ?_
        exact zr_zretc X J (by decide) hf dX4_isSort_27
      · have hf := itp h hf
        refine lv_iconst (v := (1 : Int32)) hx hb dX4_isSort_22 (by decide) ?_
        refine lv_goto hx hb dX4_isSort_23 rfl ?_
        exact zr_zretc X J (by decide) hf dX4_isSort_27
set_option maxHeartbeats 4000000 in
theorem tX9_setNext {q_ : Nat} (hq_ : q_ = 11 ∨ q_ = 12) {a1_ : Int32} {a2_ : Int32}  {σ u : zSt} {r : Unit} (hf : fX9_setNext ln N M q_ a1_ a2_ σ = some (r, u)) : zMv l yX9_setNext cX9_setNext 3 none (0) D cy shC ad ts ln [.ref (ad q_), .int a1_, .int a2_] σ u := by
  refine zM_of (by decide) (Nat.le_of_ble_eq_true rfl) (fun p e s m args below meth c ls ha X J hl => ?_)
  have hx := X.1
  have hb := X.2.1
  have hl : lv_has ls 3 [(0, .ref (ad q_)), (1, .int a1_), (2, .int a2_)] := hl
  generalize s.heap = H at J ⊢
  generalize ([] : List Loc) = locs at J ⊢
  show W p l e (zRm (0)) s m args below meth c H locs 0 0 (zQv D cy shC ad ts ln below args s (r, u)) (F0 m 0 ls [])
  unfold fX9_setNext at hf
  refine lv_iload_n hx hb dX9_setNext_0 rfl (lv_at hl 1 rfl) ?_
  refine lv_if_lt hx hb dX9_setNext_1 rfl (fun h => ?_) (fun h => ?_)
  · have hf := itp h hf
    exact zr_vret X J hf dX9_setNext_19
  · have hf := itn h hf
    refine lv_iload_n hx hb dX9_setNext_4 rfl (lv_at hl 1 rfl) ?_
    refine lv_aload_n hx hb dX9_setNext_5 rfl (lv_at hl 0 rfl) ?_
    refine gf_X9_28 hq_ X J dX9_setNext_6 ?_
    refine lv_icmp_ge hx hb dX9_setNext_9 rfl (fun h => ?_) (fun h => ?_)
    · have hf := itp h hf
      exact zr_vret X J hf dX9_setNext_19
    · have hf := itn h hf
      refine lv_aload_n hx hb dX9_setNext_12 rfl (lv_at hl 0 rfl) ?_
      refine gf_X9_25 hq_ X J dX9_setNext_13 ?_
      refine lv_iload_n hx hb dX9_setNext_16 rfl (lv_at hl 1 rfl) ?_
      refine lv_iload_n hx hb dX9_setNext_17 rfl (lv_at hl 2 rfl) ?_
      obtain ⟨hin, hf⟩ := itx hf
      refine as_X9_X9f5 hq_ X J hin dX9_setNext_18 (fun σ1 H locs eq J => ?_)
      have hf := bnd_eq eq hf
      clear eq
      exact zr_vret X J hf dX9_setNext_19
set_option maxHeartbeats 4000000 in
theorem tX4_countOf {a1_ : Int32}  {σ u : zSt} {r : Int32} (hf : fX4_countOf ln N M a1_ σ = some (r, u)) : zMi l yX4_countOf cX4_countOf 2 (some .int) (0) D cy shC ad ts ln [.ref (ad 4), .int a1_] σ r u := by
  refine zM_of (by decide) (Nat.le_of_ble_eq_true rfl) (fun p e s m args below meth c ls ha X J hl => ?_)
  have hx := X.1
  have hb := X.2.1
  have hl : lv_has ls 2 [(0, .ref (ad 4)), (1, .int a1_)] := hl
  generalize s.heap = H at J ⊢
  generalize ([] : List Loc) = locs at J ⊢
  show W p l e (zRm (0)) s m args below meth c H locs 0 0 (zQi D cy shC ad ts ln below args s (r, u)) (F0 m 0 ls [])
  unfold fX4_countOf at hf
  refine lv_iload_n hx hb dX4_countOf_0 rfl (lv_at hl 1 rfl) ?_
  refine lv_if_lt hx hb dX4_countOf_1 rfl (fun h => ?_) (fun h => ?_)
  · have hf := itp h hf
    refine lv_iconst (v := (0 : Int32)) hx hb dX4_countOf_21 (by decide) ?_
    exact zr_iret X J hf dX4_countOf_22
  · have hf := itn h hf
    refine lv_iload_n hx hb dX4_countOf_4 rfl (lv_at hl 1 rfl) ?_
    refine lv_aload_n hx hb dX4_countOf_5 rfl (lv_at hl 0 rfl) ?_
    refine gf_X4_26 X J dX4_countOf_6 ?_
    refine lv_icmp_ge hx hb dX4_countOf_9 rfl (fun h => ?_) (fun h => ?_)
    · have hf := itp h hf
      refine lv_iconst (v := (0 : Int32)) hx hb dX4_countOf_21 (by decide) ?_
      exact zr_iret X J hf dX4_countOf_22
    · have hf := itn h hf
      refine lv_aload_n hx hb dX4_countOf_12 rfl (lv_at hl 0 rfl) ?_
      refine gf_X4_20 X J dX4_countOf_13 ?_
      refine lv_iload_n hx hb dX4_countOf_16 rfl (lv_at hl 1 rfl) ?_
      obtain ⟨hin, hf⟩ := itx hf
      refine al_X4_X4f3 X J hin dX4_countOf_17 ?_
      refine lv_goto hx hb dX4_countOf_18 rfl ?_
      exact zr_iret X J hf dX4_countOf_22
set_option maxHeartbeats 4000000 in
theorem tX4_placeOf {a1_ : Int32}  {σ u : zSt} {r : Int32} (hf : fX4_placeOf ln N M a1_ σ = some (r, u)) : zMi l yX4_placeOf cX4_placeOf 2 (some .int) (0) D cy shC ad ts ln [.ref (ad 4), .int a1_] σ r u := by
  refine zM_of (by decide) (Nat.le_of_ble_eq_true rfl) (fun p e s m args below meth c ls ha X J hl => ?_)
  have hx := X.1
  have hb := X.2.1
  have hl : lv_has ls 2 [(0, .ref (ad 4)), (1, .int a1_)] := hl
  generalize s.heap = H at J ⊢
  generalize ([] : List Loc) = locs at J ⊢
  show W p l e (zRm (0)) s m args below meth c H locs 0 0 (zQi D cy shC ad ts ln below args s (r, u)) (F0 m 0 ls [])
  unfold fX4_placeOf at hf
  refine lv_iload_n hx hb dX4_placeOf_0 rfl (lv_at hl 1 rfl) ?_
  refine lv_if_lt hx hb dX4_placeOf_1 rfl (fun h => ?_) (fun h => ?_)
  · have hf := itp h hf
    refine lv_iconst (v := (0 : Int32)) hx hb dX4_placeOf_21 (by decide) ?_
    exact zr_iret X J hf dX4_placeOf_22
  · have hf := itn h hf
    refine lv_iload_n hx hb dX4_placeOf_4 rfl (lv_at hl 1 rfl) ?_
    refine lv_aload_n hx hb dX4_placeOf_5 rfl (lv_at hl 0 rfl) ?_
    refine gf_X4_26 X J dX4_placeOf_6 ?_
    refine lv_icmp_ge hx hb dX4_placeOf_9 rfl (fun h => ?_) (fun h => ?_)
    · have hf := itp h hf
      refine lv_iconst (v := (0 : Int32)) hx hb dX4_placeOf_21 (by decide) ?_
      exact zr_iret X J hf dX4_placeOf_22
    · have hf := itn h hf
      refine lv_aload_n hx hb dX4_placeOf_12 rfl (lv_at hl 0 rfl) ?_
      refine gf_X4_17 X J dX4_placeOf_13 ?_
      refine lv_iload_n hx hb dX4_placeOf_16 rfl (lv_at hl 1 rfl) ?_
      obtain ⟨hin, hf⟩ := itx hf
      refine al_X4_X4f2 X J hin dX4_placeOf_17 ?_
      refine lv_goto hx hb dX4_placeOf_18 rfl ?_
      exact zr_iret X J hf dX4_placeOf_22
set_option maxHeartbeats 4000000 in
theorem tX4_nodeOf {a1_ : Int32}  {σ u : zSt} {r : Int32} (hf : fX4_nodeOf ln N M a1_ σ = some (r, u)) : zMi l yX4_nodeOf cX4_nodeOf 2 (some .int) (0) D cy shC ad ts ln [.ref (ad 4), .int a1_] σ r u := by
  refine zM_of (by decide) (Nat.le_of_ble_eq_true rfl) (fun p e s m args below meth c ls ha X J hl => ?_)
  have hx := X.1
  have hb := X.2.1
  have hl : lv_has ls 2 [(0, .ref (ad 4)), (1, .int a1_)] := hl
  generalize s.heap = H at J ⊢
  generalize ([] : List Loc) = locs at J ⊢
  show W p l e (zRm (0)) s m args below meth c H locs 0 0 (zQi D cy shC ad ts ln below args s (r, u)) (F0 m 0 ls [])
  unfold fX4_nodeOf at hf
  refine lv_iload_n hx hb dX4_nodeOf_0 rfl (lv_at hl 1 rfl) ?_
  refine lv_if_lt hx hb dX4_nodeOf_1 rfl (fun h => ?_) (fun h => ?_)
  · have hf := itp h hf
    refine lv_iconst (v := (-1 : Int32)) hx hb dX4_nodeOf_21 (by decide) ?_
    exact zr_iret X J hf dX4_nodeOf_22
  · have hf := itn h hf
    refine lv_iload_n hx hb dX4_nodeOf_4 rfl (lv_at hl 1 rfl) ?_
    refine lv_aload_n hx hb dX4_nodeOf_5 rfl (lv_at hl 0 rfl) ?_
    refine gf_X4_26 X J dX4_nodeOf_6 ?_
    refine lv_icmp_ge hx hb dX4_nodeOf_9 rfl (fun h => ?_) (fun h => ?_)
    · have hf := itp h hf
      refine lv_iconst (v := (-1 : Int32)) hx hb dX4_nodeOf_21 (by decide) ?_
      exact zr_iret X J hf dX4_nodeOf_22
    · have hf := itn h hf
      refine lv_aload_n hx hb dX4_nodeOf_12 rfl (lv_at hl 0 rfl) ?_
      refine gf_X4_23 X J dX4_nodeOf_13 ?_
      refine lv_iload_n hx hb dX4_nodeOf_16 rfl (lv_at hl 1 rfl) ?_
      obtain ⟨hin, hf⟩ := itx hf
      refine al_X4_X4f4 X J hin dX4_nodeOf_17 ?_
      refine lv_goto hx hb dX4_nodeOf_18 rfl ?_
      exact zr_iret X J hf dX4_nodeOf_22
set_option maxHeartbeats 4000000 in
theorem bX2_call_143 {o : Int32 × zSt} {K : Int32 → zSt → Option (Int32 × zSt)} {dk : Nat} (hdk : 3 ≤ dk) (hK : ∀ (b0 : Int32) (σ u : zSt) (r : Int32), K b0 σ = some (r, u) → zMi l yX2_expression cX2_expression 6 (some .int) dk D cy shC ad ts ln [.ref (ad 5), .int b0] σ r u) (X : zX p s m args meth c D cy shC ad ts cX2_call 7 (some .int) RX2)  {x1_ : Int32} {x3_ : Int32} {x4_ : Int32}  {σ : zSt} {H : Heap} {locs : List Loc} {ls : Array Slot} (J : zJ D cy shC ad ln s σ H locs) (hl : lv_has ls 7 [(0, .ref (ad 5)), (1, .int x1_), (3, .int x3_), (4, .int x4_)]) (hf : fX2_call_b143 ln N M K  x1_ x3_ x4_ σ = some o) : W p l e (zRm (dk + 1)) s m args below meth c H locs 0 0 (zQi D cy shC ad ts ln below args s o) (F0 m 143 ls []) := by
  have hx := X.1
  have hb := X.2.1
  unfold fX2_call_b143 at hf
  refine lv_aload_n hx hb dX2_call_143 rfl (lv_at hl 0 rfl) ?_
  refine gf_X2_9 X J dX2_call_144 ?_
  obtain ⟨r11, σ12, hc, hf⟩ := obd_some hf
  refine zr_callNv (As := []) (rest := []) X J 3 ho_C_X1.1 ho_C_X1.2.1 ho_C_X1.2.2 yy_X1_leave mw_methodLinkNest_TinyCExpressions_119_TinyCDesk_leave_V_TinyC (d := 0) (zR_ok (by omega) (by decide)) hl.1 rfl (Nat.le_of_ble_eq_true rfl) (tX1_leave  hc) dX2_call_147 (fun H locs J => ?_)
  refine lv_aload_n hx hb dX2_call_150 rfl (lv_at hl 0 rfl) ?_
  refine gf_X2_21 X J dX2_call_151 ?_
  obtain ⟨r13, σ14, hc, hf⟩ := obd_some hf
  refine zr_callNv (As := []) (rest := []) X J 1 ho_C_X7.1 ho_C_X7.2.1 ho_C_X7.2.2 yy_X7_come mw_methodLinkNest_TinyCExpressions_90_TinyCScan_come_V_TinyC (d := 1) (zR_ok (by omega) (by decide)) hl.1 rfl (Nat.le_of_ble_eq_true rfl) (tX7_come  hc) dX2_call_154 (fun H locs J => ?_)
  refine lv_aload_n hx hb dX2_call_157 rfl (lv_at hl 0 rfl) ?_
  obtain ⟨q15, hq15, er, hf⟩ := rbd_some hf
  refine gf_X2_48 X J er dX2_call_158 ?_
  refine lv_bipush (v := (32 : Int32)) hx hb dX2_call_161 (by decide) ?_
  refine lv_aload_n hx hb dX2_call_163 rfl (lv_at hl 0 rfl) ?_
  refine gf_X2_26 X J dX2_call_164 ?_
  refine lv_iload_n hx hb dX2_call_167 rfl (lv_at hl 1 rfl) ?_
  obtain ⟨r16, σ17, hc, hf⟩ := obd_some hf
  refine zr_callNi (As := [.int x1_]) (rest := [.int (32 : Int32), .ref (ad q15)]) X J 4 ho_C_X4.1 ho_C_X4.2.1 ho_C_X4.2.2 yy_X4_placeOf mw_methodLinkNest_TinyCExpressions_177_TinyCNames_placeOf_II_TinyC (d := 0) (zR_ok (by omega) (by decide)) hl.1 rfl (Nat.le_of_ble_eq_true rfl) (tX4_placeOf  hc) dX2_call_168 (fun H locs J => ?_)
  refine lv_iload_n hx hb dX2_call_171 rfl (lv_at hl 2 rfl) ?_
  obtain ⟨r18, σ19, hc, hf⟩ := obd_some hf
  refine zr_callNv (As := [.int (32 : Int32), .int r16, .int x3_]) (rest := []) X J q15 (ho_C_X0 hq15).1 (ho_C_X0 hq15).2.1 (ho_C_X0 hq15).2.2 yy_X0_addWithTwo mw_methodLinkNest_TinyCExpressions_183_TinyCCode_addWithTwo_IIIV_TinyC (d := 0) (zR_ok (by omega) (by decide)) hl.1 rfl (Nat.le_of_ble_eq_true rfl) (tX0_addWithTwo hq15 hc) dX2_call_172 (fun H locs J => ?_)
  refine lv_aload_n hx hb dX2_call_175 rfl (lv_at hl 0 rfl) ?_
  obtain ⟨q20, hq20, er, hf⟩ := rbd_some hf
  refine gf_X2_43 X J er dX2_call_176 ?_
  refine lv_bipush (v := (8 : Int32)) hx hb dX2_call_179 (by decide) ?_
  refine lv_aload_n hx hb dX2_call_181 rfl (lv_at hl 0 rfl) ?_
  refine gf_X2_26 X J dX2_call_182 ?_
  refine lv_iload_n hx hb dX2_call_185 rfl (lv_at hl 1 rfl) ?_
  obtain ⟨r21, σ22, hc, hf⟩ := obd_some hf
  refine zr_callNi (As := [.int x1_]) (rest := [.int (8 : Int32), .ref (ad q20)]) X J 4 ho_C_X4.1 ho_C_X4.2.1 ho_C_X4.2.2 yy_X4_nodeOf mw_methodLinkNest_TinyCExpressions_203_TinyCNames_nodeOf_II_TinyC (d := 0) (zR_ok (by omega) (by decide)) hl.1 rfl (Nat.le_of_ble_eq_true rfl) (tX4_nodeOf  hc) dX2_call_186 (fun H locs J => ?_)
  refine lv_iload hx hb dX2_call_189 (lv_at hl 3 rfl) ?_
  refine lv_iconst (v := (-1 : Int32)) hx hb dX2_call_191 (by decide) ?_
  obtain ⟨r23, σ24, hc, hf⟩ := obd_some hf
  refine zr_callNi (As := [.int (8 : Int32), .int r21, .int x4_, .int (-1 : Int32)]) (rest := []) X J q20 (ho_C_X9 hq20).1 (ho_C_X9 hq20).2.1 (ho_C_X9 hq20).2.2 yy_X9_add mw_methodLinkNest_TinyCExpressions_116_TinyCTree_add_IIIII_TinyC (d := 0) (zR_ok (by omega) (by decide)) hl.1 rfl (Nat.le_of_ble_eq_true rfl) (tX9_add hq20 hc) dX2_call_192 (fun H locs J => ?_)
  exact zr_iret X J hf dX2_call_195
set_option maxHeartbeats 4000000 in
theorem bX2_call_121 {o : Int32 × zSt} {K : Int32 → zSt → Option (Int32 × zSt)} {dk : Nat} (hdk : 3 ≤ dk) (hK : ∀ (b0 : Int32) (σ u : zSt) (r : Int32), K b0 σ = some (r, u) → zMi l yX2_expression cX2_expression 6 (some .int) dk D cy shC ad ts ln [.ref (ad 5), .int b0] σ r u) (X : zX p s m args meth c D cy shC ad ts cX2_call 7 (some .int) RX2)  {x1_ : Int32} {x2_ : Int32} {x3_ : Int32} {x4_ : Int32}  {σ : zSt} {H : Heap} {locs : List Loc} {ls : Array Slot} (J : zJ D cy shC ad ln s σ H locs) (hl : lv_has ls 7 [(0, .ref (ad 5)), (1, .int x1_), (2, .int x2_), (3, .int x3_), (4, .int x4_)]) (hf : fX2_call_b121 ln N M K  x1_ x2_ x3_ x4_ σ = some o) : W p l e (zRm (dk + 1)) s m args below meth c H locs 0 0 (zQi D cy shC ad ts ln below args s o) (F0 m 121 ls []) := by
  have hx := X.1
  have hb := X.2.1
  unfold fX2_call_b121 at hf
  refine lv_iload_n hx hb dX2_call_121 rfl (lv_at hl 3 rfl) ?_
  refine lv_aload_n hx hb dX2_call_122 rfl (lv_at hl 0 rfl) ?_
  refine gf_X2_26 X J dX2_call_123 ?_
  refine lv_iload_n hx hb dX2_call_126 rfl (lv_at hl 1 rfl) ?_
  obtain ⟨r9, σ10, hc, hf⟩ := obd_some hf
  refine zr_callNi (As := [.int x1_]) (rest := [.int x3_]) X J 4 ho_C_X4.1 ho_C_X4.2.1 ho_C_X4.2.2 yy_X4_countOf mw_methodLinkNest_TinyCExpressions_180_TinyCNames_countOf_II_TinyC (d := 0) (zR_ok (by omega) (by decide)) hl.1 rfl (Nat.le_of_ble_eq_true rfl) (tX4_countOf  hc) dX2_call_127 (fun H locs J => ?_)
  refine lv_icmp_eq hx hb dX2_call_130 rfl (fun h => ?_) (fun h => ?_)
  · have hf := itp h hf
    exact bX2_call_143 hdk hK X   J (lv_sub hl [0, 1, 3, 4] rfl) hf
  · have hf := itn h hf
    refine lv_aload_n hx hb dX2_call_133 rfl (lv_at hl 0 rfl) ?_
    refine gf_X2_21 X J dX2_call_134 ?_
    refine lv_bipush (v := (6 : Int32)) hx hb dX2_call_137 (by decide) ?_
    refine lv_iload_n hx hb dX2_call_139 rfl (lv_at hl 2 rfl) ?_
    obtain ⟨r25, σ26, hc, hf⟩ := obd_some hf
    refine zr_callNv (As := [.int (6 : Int32), .int x2_]) (rest := []) X J 1 ho_C_X7.1 ho_C_X7.2.1 ho_C_X7.2.2 yy_X7_fail mw_methodLinkNest_TinyCExpressions_125_TinyCScan_fail_IIV_TinyC (d := 0) (zR_ok (by omega) (by decide)) hl.1 rfl (Nat.le_of_ble_eq_true rfl) (tX7_fail  hc) dX2_call_140 (fun H locs J => ?_)
    exact bX2_call_143 hdk hK X   J (lv_sub hl [0, 1, 3, 4] rfl) hf
set_option maxHeartbeats 4000000 in
theorem bX2_call_55 {o : Int32 × zSt} {K : Int32 → zSt → Option (Int32 × zSt)} {dk : Nat} (hdk : 3 ≤ dk) (hK : ∀ (b0 : Int32) (σ u : zSt) (r : Int32), K b0 σ = some (r, u) → zMi l yX2_expression cX2_expression 6 (some .int) dk D cy shC ad ts ln [.ref (ad 5), .int b0] σ r u) (X : zX p s m args meth c D cy shC ad ts cX2_call 7 (some .int) RX2)  : ∀ (n : Nat) (x1_ : Int32) (x2_ : Int32) (x3_ : Int32) (x4_ : Int32) (x5_ : Int32) (σ : zSt) (H : Heap) (locs : List Loc) (ls : Array Slot), zJ D cy shC ad ln s σ H locs → lv_has ls 7 [(0, .ref (ad 5)), (1, .int x1_), (2, .int x2_), (3, .int x3_), (4, .int x4_), (5, .int x5_)] → fX2_call_b55 ln N M K  n x1_ x2_ x3_ x4_ x5_ σ = some o → W p l e (zRm (dk + 1)) s m args below meth c H locs 0 0 (zQi D cy shC ad ts ln below args s o) (F0 m 55 ls []) := by
  have hx := X.1
  have hb := X.2.1
  intro n
  induction n with
  | zero =>
    intro x1_ x2_ x3_ x4_ x5_ σ H locs ls J hl hf
    rw [fX2_call_b55] at hf
    cases hf
  | succ n ih =>
    intro x1_ x2_ x3_ x4_ x5_ σ H locs ls J hl hf
    rw [fX2_call_b55] at hf
    refine lv_iload hx hb dX2_call_55 (lv_at hl 5 rfl) ?_
    refine lv_aload_n hx hb dX2_call_57 rfl (lv_at hl 0 rfl) ?_
    refine gf_X2_21 X J dX2_call_58 ?_
    refine gf_X2_56 X J dX2_call_61 ?_
    refine lv_icmp_gt hx hb dX2_call_64 rfl (fun h => ?_) (fun h => ?_)
    · have hf := itp h hf
      exact bX2_call_121 hdk hK X   J (lv_sub hl [0, 1, 2, 3, 4] rfl) hf
    · have hf := itn h hf
      refine lv_aload_n hx hb dX2_call_67 rfl (lv_at hl 0 rfl) ?_
      refine lv_bipush (v := (55 : Int32)) hx hb dX2_call_68 (by decide) ?_
      obtain ⟨r28, σ29, hc, hf⟩ := obd_some hf
      refine zr_calli (As := [.int (55 : Int32)]) (rest := []) X J 5 ho_C_X2.1 ho_C_X2.2.1 ho_C_X2.2.2 yy_X2_expression mw_methodLink_TinyCExpressions_159_TinyCExpressions_expression_II (d := dk) (zR_ok (by omega) (by decide)) hl.1 rfl (Nat.le_of_ble_eq_true rfl) (hK _ _ _ _ hc) dX2_call_70 (fun H locs J => ?_)
      refine lv_istore hx hb dX2_call_73 hl (by decide) rfl (fun ls hl => ?_)
      have hl : lv_has ls 7 [(6, .int r28), (0, .ref (ad 5)), (1, .int x1_), (2, .int x2_), (3, .int x3_), (4, .int x4_), (5, .int x5_)] := hl
      refine lv_aload_n hx hb dX2_call_75 rfl (lv_at hl 1 rfl) ?_
      obtain ⟨q30, hq30, er, hf⟩ := rbd_some hf
      refine gf_X2_43 X J er dX2_call_76 ?_
      refine lv_iload hx hb dX2_call_79 (lv_at hl 0 rfl) ?_
      refine lv_iload hx hb dX2_call_81 (lv_at hl 5 rfl) ?_
      obtain ⟨r31, σ32, hc, hf⟩ := obd_some hf
      refine zr_callNv (As := [.int r28, .int x4_]) (rest := []) X J q30 (ho_C_X9 hq30).1 (ho_C_X9 hq30).2.1 (ho_C_X9 hq30).2.2 yy_X9_setNext mw_methodLinkNest_TinyCExpressions_200_TinyCTree_setNext_IIV_TinyC (d := 0) (zR_ok (by omega) (by decide)) hl.1 rfl (Nat.le_of_ble_eq_true rfl) (tX9_setNext hq30 hc) dX2_call_83 (fun H locs J => ?_)
      refine lv_iload hx hb dX2_call_86 (lv_at hl 0 rfl) ?_
      refine lv_istore hx hb dX2_call_88 hl (by decide) rfl (fun ls hl => ?_)
      have hl : lv_has ls 7 [(4, .int r28), (6, .int r28), (0, .ref (ad 5)), (1, .int x1_), (2, .int x2_), (3, .int x3_), (5, .int x5_)] := hl
      obtain ⟨x33, eq⟩ : ∃ z, z = x3_ + (1 : Int32) := ⟨_, rfl⟩
      have hf := bnd_eq eq hf
      refine lv_iinc hx hb dX2_call_90 hl (k := 5) rfl (v := x33) (by rw [eq]; rfl) (by decide) rfl (fun ls hl => ?_)
      clear eq
      have hl : lv_has ls 7 [(3, .int x33), (4, .int r28), (6, .int r28), (0, .ref (ad 5)), (1, .int x1_), (2, .int x2_), (5, .int x5_)] := hl
      refine lv_aload_n hx hb dX2_call_93 rfl (lv_at hl 3 rfl) ?_
      refine gf_X2_21 X J dX2_call_94 ?_
      refine gf_X2_76 X J dX2_call_97 ?_
      refine lv_bipush (v := (55 : Int32)) hx hb dX2_call_100 (by decide) ?_
      refine lv_icmp_eq hx hb dX2_call_102 rfl (fun h => ?_) (fun h => ?_)
      · have hf := itp h hf
        refine lv_aload_n hx hb dX2_call_108 rfl (lv_at hl 3 rfl) ?_
        refine gf_X2_21 X J dX2_call_109 ?_
        obtain ⟨r34, σ35, hc, hf⟩ := obd_some hf
        refine zr_callNv (As := []) (rest := []) X J 1 ho_C_X7.1 ho_C_X7.2.1 ho_C_X7.2.2 yy_X7_come mw_methodLinkNest_TinyCExpressions_90_TinyCScan_come_V_TinyC (d := 1) (zR_ok (by omega) (by decide)) hl.1 rfl (Nat.le_of_ble_eq_true rfl) (tX7_come  hc) dX2_call_112 (fun H locs J => ?_)
        obtain ⟨x36, eq⟩ : ∃ z, z = x5_ + (1 : Int32) := ⟨_, rfl⟩
        have hf := bnd_eq eq hf
        refine lv_iinc hx hb dX2_call_115 hl (k := 6) rfl (v := x36) (by rw [eq]; rfl) (by decide) rfl (fun ls hl => ?_)
        clear eq
        have hl : lv_has ls 7 [(5, .int x36), (3, .int x33), (4, .int r28), (6, .int r28), (0, .ref (ad 5)), (1, .int x1_), (2, .int x2_)] := hl
        refine lv_goto hx hb dX2_call_118 rfl ?_
        exact ih _ _ _ _ _ _ _ _ _ J (lv_sub hl [4, 5, 6, 1, 2, 0] rfl) hf
      · have hf := itn h hf
        refine lv_goto hx hb dX2_call_105 rfl ?_
        exact bX2_call_121 hdk hK X   J (lv_sub hl [3, 4, 5, 0, 1] rfl) hf
set_option maxHeartbeats 4000000 in
theorem bX2_call_21 {o : Int32 × zSt} {K : Int32 → zSt → Option (Int32 × zSt)} {dk : Nat} (hdk : 3 ≤ dk) (hK : ∀ (b0 : Int32) (σ u : zSt) (r : Int32), K b0 σ = some (r, u) → zMi l yX2_expression cX2_expression 6 (some .int) dk D cy shC ad ts ln [.ref (ad 5), .int b0] σ r u) (X : zX p s m args meth c D cy shC ad ts cX2_call 7 (some .int) RX2)  {x1_ : Int32} {x2_ : Int32}  {σ : zSt} {H : Heap} {locs : List Loc} {ls : Array Slot} (J : zJ D cy shC ad ln s σ H locs) (hl : lv_has ls 7 [(0, .ref (ad 5)), (1, .int x1_), (2, .int x2_)]) (hf : fX2_call_b21 ln N M K  x1_ x2_ σ = some o) : W p l e (zRm (dk + 1)) s m args below meth c H locs 0 0 (zQi D cy shC ad ts ln below args s o) (F0 m 21 ls []) := by
  have hx := X.1
  have hb := X.2.1
  unfold fX2_call_b21 at hf
  refine lv_aload_n hx hb dX2_call_21 rfl (lv_at hl 0 rfl) ?_
  refine gf_X2_9 X J dX2_call_22 ?_
  obtain ⟨r3, σ4, hc, hf⟩ := obd_some hf
  refine zr_callNv (As := []) (rest := []) X J 3 ho_C_X1.1 ho_C_X1.2.1 ho_C_X1.2.2 yy_X1_enter mw_methodLinkNest_TinyCExpressions_96_TinyCDesk_enter_V_TinyC (d := 1) (zR_ok (by omega) (by decide)) hl.1 rfl (Nat.le_of_ble_eq_true rfl) (tX1_enter  hc) dX2_call_25 (fun H locs J => ?_)
  refine lv_aload_n hx hb dX2_call_28 rfl (lv_at hl 0 rfl) ?_
  refine gf_X2_21 X J dX2_call_29 ?_
  obtain ⟨r5, σ6, hc, hf⟩ := obd_some hf
  refine zr_callNv (As := []) (rest := []) X J 1 ho_C_X7.1 ho_C_X7.2.1 ho_C_X7.2.2 yy_X7_come mw_methodLinkNest_TinyCExpressions_90_TinyCScan_come_V_TinyC (d := 1) (zR_ok (by omega) (by decide)) hl.1 rfl (Nat.le_of_ble_eq_true rfl) (tX7_come  hc) dX2_call_32 (fun H locs J => ?_)
  refine lv_iconst (v := (0 : Int32)) hx hb dX2_call_35 (by decide) ?_
  refine lv_topi (fun x7 eq => ?_)
  have hf := bnd_eq eq hf
  clear eq
  refine lv_istore_n hx hb dX2_call_36 rfl hl (by decide) rfl (fun ls hl => ?_)
  have hl : lv_has ls 7 [(3, .int x7), (0, .ref (ad 5)), (1, .int x1_), (2, .int x2_)] := hl
  refine lv_iconst (v := (-1 : Int32)) hx hb dX2_call_37 (by decide) ?_
  refine lv_topi (fun x8 eq => ?_)
  have hf := bnd_eq eq hf
  clear eq
  refine lv_istore hx hb dX2_call_38 hl (by decide) rfl (fun ls hl => ?_)
  have hl : lv_has ls 7 [(4, .int x8), (3, .int x7), (0, .ref (ad 5)), (1, .int x1_), (2, .int x2_)] := hl
  refine lv_aload_n hx hb dX2_call_40 rfl (lv_at hl 2 rfl) ?_
  refine gf_X2_21 X J dX2_call_41 ?_
  refine gf_X2_76 X J dX2_call_44 ?_
  refine lv_bipush (v := (50 : Int32)) hx hb dX2_call_47 (by decide) ?_
  refine lv_icmp_eq hx hb dX2_call_49 rfl (fun h => ?_) (fun h => ?_)
  · have hf := itp h hf
    exact bX2_call_121 hdk hK X   J (lv_sub hl [2, 3, 4, 1, 0] rfl) hf
  · have hf := itn h hf
    refine lv_iconst (v := (0 : Int32)) hx hb dX2_call_52 (by decide) ?_
    refine lv_topi (fun x27 eq => ?_)
    have hf := bnd_eq eq hf
    clear eq
    refine lv_istore hx hb dX2_call_53 hl (by decide) rfl (fun ls hl => ?_)
    have hl : lv_has ls 7 [(5, .int x27), (4, .int x8), (3, .int x7), (0, .ref (ad 5)), (1, .int x1_), (2, .int x2_)] := hl
    exact bX2_call_55 hdk hK X  N _ _ _ _ _ _ _ _ _ J (lv_sub hl [3, 4, 5, 2, 1, 0] rfl) hf
set_option maxHeartbeats 4000000 in
theorem tX2_call {K : Int32 → zSt → Option (Int32 × zSt)} {dk : Nat} (hdk : 3 ≤ dk) (hK : ∀ (b0 : Int32) (σ u : zSt) (r : Int32), K b0 σ = some (r, u) → zMi l yX2_expression cX2_expression 6 (some .int) dk D cy shC ad ts ln [.ref (ad 5), .int b0] σ r u) {a1_ : Int32} {a2_ : Int32}  {σ u : zSt} {r : Int32} (hf : fX2_call ln N M K a1_ a2_ σ = some (r, u)) : zMi l yX2_call cX2_call 7 (some .int) (dk + 1) D cy shC ad ts ln [.ref (ad 5), .int a1_, .int a2_] σ r u := by
  refine zM_of (by decide) (Nat.le_of_ble_eq_true rfl) (fun p e s m args below meth c ls ha X J hl => ?_)
  have hx := X.1
  have hb := X.2.1
  have hl : lv_has ls 7 [(0, .ref (ad 5)), (1, .int a1_), (2, .int a2_)] := hl
  generalize s.heap = H at J ⊢
  generalize ([] : List Loc) = locs at J ⊢
  show W p l e (zRm (dk + 1)) s m args below meth c H locs 0 0 (zQi D cy shC ad ts ln below args s (r, u)) (F0 m 0 ls [])
  unfold fX2_call at hf
  refine lv_aload_n hx hb dX2_call_0 rfl (lv_at hl 0 rfl) ?_
  refine gf_X2_26 X J dX2_call_1 ?_
  refine lv_iload_n hx hb dX2_call_4 rfl (lv_at hl 1 rfl) ?_
  refine lv_iconst (v := (2 : Int32)) hx hb dX2_call_5 (by decide) ?_
  obtain ⟨r1, σ2, hc, hf⟩ := obd_some hf
  refine zr_callNi (As := [.int a1_, .int (2 : Int32)]) (rest := []) X J 4 ho_C_X4.1 ho_C_X4.2.1 ho_C_X4.2.2 yy_X4_isSort mw_methodLinkNest_TinyCExpressions_193_TinyCNames_isSort_IIZ_TinyC (d := 0) (zR_ok (by omega) (by decide)) hl.1 rfl (Nat.le_of_ble_eq_true rfl) (tX4_isSort  hc) dX2_call_6 (fun H locs J => ?_)
  refine lv_if_ne hx hb dX2_call_9 rfl (fun h => ?_) (fun h => ?_)
  · have hf := itn h hf
    exact bX2_call_21 hdk hK X   J (lv_sub hl [0, 1, 2] rfl) hf
  · have hf := itp h hf
    refine lv_aload_n hx hb dX2_call_12 rfl (lv_at hl 0 rfl) ?_
    refine gf_X2_21 X J dX2_call_13 ?_
    refine lv_iconst (v := (5 : Int32)) hx hb dX2_call_16 (by decide) ?_
    refine lv_iload_n hx hb dX2_call_17 rfl (lv_at hl 2 rfl) ?_
    obtain ⟨r37, σ38, hc, hf⟩ := obd_some hf
    refine zr_callNv (As := [.int (5 : Int32), .int a2_]) (rest := []) X J 1 ho_C_X7.1 ho_C_X7.2.1 ho_C_X7.2.2 yy_X7_fail mw_methodLinkNest_TinyCExpressions_125_TinyCScan_fail_IIV_TinyC (d := 0) (zR_ok (by omega) (by decide)) hl.1 rfl (Nat.le_of_ble_eq_true rfl) (tX7_fail  hc) dX2_call_18 (fun H locs J => ?_)
    exact bX2_call_21 hdk hK X   J (lv_sub hl [0, 1, 2] rfl) hf
set_option maxHeartbeats 4000000 in
theorem bX2_index_21 {o : Int32 × zSt} {K : Int32 → zSt → Option (Int32 × zSt)} {dk : Nat} (hdk : 3 ≤ dk) (hK : ∀ (b0 : Int32) (σ u : zSt) (r : Int32), K b0 σ = some (r, u) → zMi l yX2_expression cX2_expression 6 (some .int) dk D cy shC ad ts ln [.ref (ad 5), .int b0] σ r u) (X : zX p s m args meth c D cy shC ad ts cX2_index 4 (some .int) RX2)    {σ : zSt} {H : Heap} {locs : List Loc} {ls : Array Slot} (J : zJ D cy shC ad ln s σ H locs) (hl : lv_has ls 4 [(0, .ref (ad 5))]) (hf : fX2_index_b21 ln N M K   σ = some o) : W p l e (zRm (dk + 1)) s m args below meth c H locs 0 0 (zQi D cy shC ad ts ln below args s o) (F0 m 21 ls []) := by
  have hx := X.1
  have hb := X.2.1
  unfold fX2_index_b21 at hf
  refine lv_aload_n hx hb dX2_index_21 rfl (lv_at hl 0 rfl) ?_
  refine gf_X2_9 X J dX2_index_22 ?_
  obtain ⟨r3, σ4, hc, hf⟩ := obd_some hf
  refine zr_callNv (As := []) (rest := []) X J 3 ho_C_X1.1 ho_C_X1.2.1 ho_C_X1.2.2 yy_X1_enter mw_methodLinkNest_TinyCExpressions_96_TinyCDesk_enter_V_TinyC (d := 1) (zR_ok (by omega) (by decide)) hl.1 rfl (Nat.le_of_ble_eq_true rfl) (tX1_enter  hc) dX2_index_25 (fun H locs J => ?_)
  refine lv_aload_n hx hb dX2_index_28 rfl (lv_at hl 0 rfl) ?_
  refine gf_X2_21 X J dX2_index_29 ?_
  obtain ⟨r5, σ6, hc, hf⟩ := obd_some hf
  refine zr_callNv (As := []) (rest := []) X J 1 ho_C_X7.1 ho_C_X7.2.1 ho_C_X7.2.2 yy_X7_come mw_methodLinkNest_TinyCExpressions_90_TinyCScan_come_V_TinyC (d := 1) (zR_ok (by omega) (by decide)) hl.1 rfl (Nat.le_of_ble_eq_true rfl) (tX7_come  hc) dX2_index_32 (fun H locs J => ?_)
  refine lv_aload_n hx hb dX2_index_35 rfl (lv_at hl 0 rfl) ?_
  refine lv_bipush (v := (54 : Int32)) hx hb dX2_index_36 (by decide) ?_
  obtain ⟨r7, σ8, hc, hf⟩ := obd_some hf
  refine zr_calli (As := [.int (54 : Int32)]) (rest := []) X J 5 ho_C_X2.1 ho_C_X2.2.1 ho_C_X2.2.2 yy_X2_expression mw_methodLink_TinyCExpressions_159_TinyCExpressions_expression_II (d := dk) (zR_ok (by omega) (by decide)) hl.1 rfl (Nat.le_of_ble_eq_true rfl) (hK _ _ _ _ hc) dX2_index_38 (fun H locs J => ?_)
  refine lv_istore_n hx hb dX2_index_41 rfl hl (by decide) rfl (fun ls hl => ?_)
  have hl : lv_has ls 4 [(3, .int r7), (0, .ref (ad 5))] := hl
  refine lv_aload_n hx hb dX2_index_42 rfl (lv_at hl 1 rfl) ?_
  refine gf_X2_9 X J dX2_index_43 ?_
  obtain ⟨r9, σ10, hc, hf⟩ := obd_some hf
  refine zr_callNv (As := []) (rest := []) X J 3 ho_C_X1.1 ho_C_X1.2.1 ho_C_X1.2.2 yy_X1_leave mw_methodLinkNest_TinyCExpressions_119_TinyCDesk_leave_V_TinyC (d := 0) (zR_ok (by omega) (by decide)) hl.1 rfl (Nat.le_of_ble_eq_true rfl) (tX1_leave  hc) dX2_index_46 (fun H locs J => ?_)
  refine lv_aload_n hx hb dX2_index_49 rfl (lv_at hl 1 rfl) ?_
  refine gf_X2_21 X J dX2_index_50 ?_
  obtain ⟨r11, σ12, hc, hf⟩ := obd_some hf
  refine zr_callNv (As := []) (rest := []) X J 1 ho_C_X7.1 ho_C_X7.2.1 ho_C_X7.2.2 yy_X7_come mw_methodLinkNest_TinyCExpressions_90_TinyCScan_come_V_TinyC (d := 1) (zR_ok (by omega) (by decide)) hl.1 rfl (Nat.le_of_ble_eq_true rfl) (tX7_come  hc) dX2_index_53 (fun H locs J => ?_)
  refine lv_iload_n hx hb dX2_index_56 rfl (lv_at hl 0 rfl) ?_
  exact zr_iret X J hf dX2_index_57
set_option maxHeartbeats 4000000 in
theorem tX2_index {K : Int32 → zSt → Option (Int32 × zSt)} {dk : Nat} (hdk : 3 ≤ dk) (hK : ∀ (b0 : Int32) (σ u : zSt) (r : Int32), K b0 σ = some (r, u) → zMi l yX2_expression cX2_expression 6 (some .int) dk D cy shC ad ts ln [.ref (ad 5), .int b0] σ r u) {a1_ : Int32} {a2_ : Int32}  {σ u : zSt} {r : Int32} (hf : fX2_index ln N M K a1_ a2_ σ = some (r, u)) : zMi l yX2_index cX2_index 4 (some .int) (dk + 1) D cy shC ad ts ln [.ref (ad 5), .int a1_, .int a2_] σ r u := by
  refine zM_of (by decide) (Nat.le_of_ble_eq_true rfl) (fun p e s m args below meth c ls ha X J hl => ?_)
  have hx := X.1
  have hb := X.2.1
  have hl : lv_has ls 4 [(0, .ref (ad 5)), (1, .int a1_), (2, .int a2_)] := hl
  generalize s.heap = H at J ⊢
  generalize ([] : List Loc) = locs at J ⊢
  show W p l e (zRm (dk + 1)) s m args below meth c H locs 0 0 (zQi D cy shC ad ts ln below args s (r, u)) (F0 m 0 ls [])
  unfold fX2_index at hf
  refine lv_aload_n hx hb dX2_index_0 rfl (lv_at hl 0 rfl) ?_
  refine gf_X2_26 X J dX2_index_1 ?_
  refine lv_iload_n hx hb dX2_index_4 rfl (lv_at hl 1 rfl) ?_
  refine lv_iconst (v := (1 : Int32)) hx hb dX2_index_5 (by decide) ?_
  obtain ⟨r1, σ2, hc, hf⟩ := obd_some hf
  refine zr_callNi (As := [.int a1_, .int (1 : Int32)]) (rest := []) X J 4 ho_C_X4.1 ho_C_X4.2.1 ho_C_X4.2.2 yy_X4_isSort mw_methodLinkNest_TinyCExpressions_193_TinyCNames_isSort_IIZ_TinyC (d := 0) (zR_ok (by omega) (by decide)) hl.1 rfl (Nat.le_of_ble_eq_true rfl) (tX4_isSort  hc) dX2_index_6 (fun H locs J => ?_)
  refine lv_if_ne hx hb dX2_index_9 rfl (fun h => ?_) (fun h => ?_)
  · have hf := itn h hf
    exact bX2_index_21 hdk hK X   J (lv_sub hl [0] rfl) hf
  · have hf := itp h hf
    refine lv_aload_n hx hb dX2_index_12 rfl (lv_at hl 0 rfl) ?_
    refine gf_X2_21 X J dX2_index_13 ?_
    refine lv_iconst (v := (5 : Int32)) hx hb dX2_index_16 (by decide) ?_
    refine lv_iload_n hx hb dX2_index_17 rfl (lv_at hl 2 rfl) ?_
    obtain ⟨r13, σ14, hc, hf⟩ := obd_some hf
    refine zr_callNv (As := [.int (5 : Int32), .int a2_]) (rest := []) X J 1 ho_C_X7.1 ho_C_X7.2.1 ho_C_X7.2.2 yy_X7_fail mw_methodLinkNest_TinyCExpressions_125_TinyCScan_fail_IIV_TinyC (d := 0) (zR_ok (by omega) (by decide)) hl.1 rfl (Nat.le_of_ble_eq_true rfl) (tX7_fail  hc) dX2_index_18 (fun H locs J => ?_)
    exact bX2_index_21 hdk hK X   J (lv_sub hl [0] rfl) hf
set_option maxHeartbeats 4000000 in
theorem bX4_isValue_31 {o : Int32 × zSt} (X : zX p s m args meth c D cy shC ad ts cX4_isValue 2 (some .boolean) RX4)    {σ : zSt} {H : Heap} {locs : List Loc} {ls : Array Slot} (J : zJ D cy shC ad ln s σ H locs) (hl : lv_has ls 2 []) (hf : fX4_isValue_b31 ln N M   σ = some o) : W p l e (zRm (0)) s m args below meth c H locs 0 0 (zQi D cy shC ad ts ln below args s o) (F0 m 31 ls []) := by
  have hx := X.1
  have hb := X.2.1
  unfold fX4_isValue_b31 at hf
  refine lv_iconst (v := (1 : Int32)) hx hb dX4_isValue_31 (by decide) ?_
  refine lv_goto hx hb dX4_isValue_32 rfl ?_
  exact zr_zretc X J (by decide) hf dX4_isValue_36
set_option maxHeartbeats 4000000 in
theorem tX4_isValue {a1_ : Int32}  {σ u : zSt} {r : Int32} (hf : fX4_isValue ln N M a1_ σ = some (r, u)) : zMi l yX4_isValue cX4_isValue 2 (some .boolean) (0) D cy shC ad ts ln [.ref (ad 4), .int a1_] σ r u := by
  refine zM_of (by decide) (Nat.le_of_ble_eq_true rfl) (fun p e s m args below meth c ls ha X J hl => ?_)
  have hx := X.1
  have hb := X.2.1
  have hl : lv_has ls 2 [(0, .ref (ad 4)), (1, .int a1_)] := hl
  generalize s.heap = H at J ⊢
  generalize ([] : List Loc) = locs at J ⊢
  show W p l e (zRm (0)) s m args below meth c H locs 0 0 (zQi D cy shC ad ts ln below args s (r, u)) (F0 m 0 ls [])
  unfold fX4_isValue at hf
  refine lv_iload_n hx hb dX4_isValue_0 rfl (lv_at hl 1 rfl) ?_
  refine lv_if_lt hx hb dX4_isValue_1 rfl (fun h => ?_) (fun h => ?_)
  · have hf := itp h hf
    refine lv_iconst (v := (0 : Int32)) hx hb dX4_isValue_35 (by decide) ?_
    exact zr_zretc X J (by decide) hf dX4_isValue_36
  · have hf := itn h hf
    refine lv_iload_n hx hb dX4_isValue_4 rfl (lv_at hl 1 rfl) ?_
    refine lv_aload_n hx hb dX4_isValue_5 rfl (lv_at hl 0 rfl) ?_
    refine gf_X4_26 X J dX4_isValue_6 ?_
    refine lv_icmp_ge hx hb dX4_isValue_9 rfl (fun h => ?_) (fun h => ?_)
    · have hf := itp h hf
      refine lv_iconst (v := (0 : Int32)) hx hb dX4_isValue_35 (by decide) ?_
      exact zr_zretc X J (by decide) hf dX4_isValue_36
    · have hf := itn h hf
      refine lv_aload_n hx hb dX4_isValue_12 rfl (lv_at hl 0 rfl) ?_
      refine gf_X4_13 X J dX4_isValue_13 ?_
      refine lv_iload_n hx hb dX4_isValue_16 rfl (lv_at hl 1 rfl) ?_
      obtain ⟨hin, hf⟩ := itx hf
      refine al_X4_X4f1 X J hin dX4_isValue_17 ?_
      refine lv_if_eq hx hb dX4_isValue_18 rfl (fun h => ?_) (fun h => ?_)
      · have hf := itp h hf
        exact bX4_isValue_31 X   J (lv_sub hl [] rfl) hf
      · have hf := itn h hf
        refine lv_aload_n hx hb dX4_isValue_21 rfl (lv_at hl 0 rfl) ?_
        refine gf_X4_13 X J dX4_isValue_22 ?_
        refine lv_iload_n hx hb dX4_isValue_25 rfl (lv_at hl 1 rfl) ?_
        obtain ⟨hin, hf⟩ := itx hf
        refine al_X4_X4f1 X J hin dX4_isValue_26 ?_
        refine lv_iconst (v := (3 : Int32)) hx hb dX4_isValue_27 (by decide) ?_
        refine lv_icmp_ne hx hb dX4_isValue_28 rfl (fun h => ?_) (fun h => ?_)
        · have hf := itn h hf
          refine lv_iconst (v := (0 : Int32)) hx hb dX4_isValue_35 (by decide) ?_
          exact zr_zretc X J (by decide) hf dX4_isValue_36
        · have hf := itp h hf
          exact bX4_isValue_31 X   J (lv_sub hl [] rfl) hf
set_option maxHeartbeats 4000000 in
theorem tX1_inFrame {a1_ : Int32}  {σ u : zSt} {r : Int32} (hf : fX1_inFrame ln N M a1_ σ = some (r, u)) : zMi l yX1_inFrame cX1_inFrame 2 (some .int) (0) D cy shC ad ts ln [.ref (ad 3), .int a1_] σ r u := by
  refine zM_of (by decide) (Nat.le_of_ble_eq_true rfl) (fun p e s m args below meth c ls ha X J hl => ?_)
  have hx := X.1
  have hb := X.2.1
  have hl : lv_has ls 2 [(0, .ref (ad 3)), (1, .int a1_)] := hl
  generalize s.heap = H at J ⊢
  generalize ([] : List Loc) = locs at J ⊢
  show W p l e (zRm (0)) s m args below meth c H locs 0 0 (zQi D cy shC ad ts ln below args s (r, u)) (F0 m 0 ls [])
  unfold fX1_inFrame at hf
  refine lv_iload_n hx hb dX1_inFrame_0 rfl (lv_at hl 1 rfl) ?_
  refine lv_if_ge hx hb dX1_inFrame_1 rfl (fun h => ?_) (fun h => ?_)
  · have hf := itp h hf
    refine lv_iload_n hx hb dX1_inFrame_15 rfl (lv_at hl 1 rfl) ?_
    refine lv_aload_n hx hb dX1_inFrame_16 rfl (lv_at hl 0 rfl) ?_
    refine gf_X1_35 X J dX1_inFrame_17 ?_
    refine lv_iadd hx hb dX1_inFrame_20 ?_
    exact zr_iret X J hf dX1_inFrame_21
  · have hf := itn h hf
    refine lv_iload_n hx hb dX1_inFrame_4 rfl (lv_at hl 1 rfl) ?_
    refine lv_iconst (v := (2 : Int32)) hx hb dX1_inFrame_5 (by decide) ?_
    refine lv_iadd hx hb dX1_inFrame_6 ?_
    refine lv_aload_n hx hb dX1_inFrame_7 rfl (lv_at hl 0 rfl) ?_
    refine gf_X1_35 X J dX1_inFrame_8 ?_
    refine lv_iadd hx hb dX1_inFrame_11 ?_
    refine lv_goto hx hb dX1_inFrame_12 rfl ?_
    exact zr_iret X J hf dX1_inFrame_21
set_option maxHeartbeats 4000000 in
theorem tX2_variable {a1_ : Int32}  {σ u : zSt} {r : Int32} (hf : fX2_variable ln N M a1_ σ = some (r, u)) : zMi l yX2_variable cX2_variable 3 (some .int) (1) D cy shC ad ts ln [.ref (ad 5), .int a1_] σ r u := by
  refine zM_of (by decide) (Nat.le_of_ble_eq_true rfl) (fun p e s m args below meth c ls ha X J hl => ?_)
  have hx := X.1
  have hb := X.2.1
  have hl : lv_has ls 3 [(0, .ref (ad 5)), (1, .int a1_)] := hl
  generalize s.heap = H at J ⊢
  generalize ([] : List Loc) = locs at J ⊢
  show W p l e (zRm (1)) s m args below meth c H locs 0 0 (zQi D cy shC ad ts ln below args s (r, u)) (F0 m 0 ls [])
  unfold fX2_variable at hf
  refine lv_aload_n hx hb dX2_variable_0 rfl (lv_at hl 0 rfl) ?_
  refine gf_X2_26 X J dX2_variable_1 ?_
  refine lv_iload_n hx hb dX2_variable_4 rfl (lv_at hl 1 rfl) ?_
  obtain ⟨r1, σ2, hc, hf⟩ := obd_some hf
  refine zr_callNi (As := [.int a1_]) (rest := []) X J 4 ho_C_X4.1 ho_C_X4.2.1 ho_C_X4.2.2 yy_X4_placeOf mw_methodLinkNest_TinyCExpressions_177_TinyCNames_placeOf_II_TinyC (d := 0) (zR_ok (by omega) (by decide)) hl.1 rfl (Nat.le_of_ble_eq_true rfl) (tX4_placeOf  hc) dX2_variable_5 (fun H locs J => ?_)
  refine lv_istore_n hx hb dX2_variable_8 rfl hl (by decide) rfl (fun ls hl => ?_)
  have hl : lv_has ls 3 [(2, .int r1), (0, .ref (ad 5)), (1, .int a1_)] := hl
  refine lv_aload_n hx hb dX2_variable_9 rfl (lv_at hl 1 rfl) ?_
  refine gf_X2_26 X J dX2_variable_10 ?_
  refine lv_iload_n hx hb dX2_variable_13 rfl (lv_at hl 2 rfl) ?_
  refine lv_iconst (v := (3 : Int32)) hx hb dX2_variable_14 (by decide) ?_
  obtain ⟨r3, σ4, hc, hf⟩ := obd_some hf
  refine zr_callNi (As := [.int a1_, .int (3 : Int32)]) (rest := []) X J 4 ho_C_X4.1 ho_C_X4.2.1 ho_C_X4.2.2 yy_X4_isSort mw_methodLinkNest_TinyCExpressions_193_TinyCNames_isSort_IIZ_TinyC (d := 0) (zR_ok (by omega) (by decide)) hl.1 rfl (Nat.le_of_ble_eq_true rfl) (tX4_isSort  hc) dX2_variable_15 (fun H locs J => ?_)
  refine lv_if_eq hx hb dX2_variable_18 rfl (fun h => ?_) (fun h => ?_)
  · have hf := itp h hf
    refine lv_aload_n hx hb dX2_variable_49 rfl (lv_at hl 1 rfl) ?_
    obtain ⟨q5, hq5, er, hf⟩ := rbd_some hf
    refine gf_X2_48 X J er dX2_variable_50 ?_
    refine lv_iconst (v := (2 : Int32)) hx hb dX2_variable_53 (by decide) ?_
    refine lv_iload_n hx hb dX2_variable_54 rfl (lv_at hl 0 rfl) ?_
    obtain ⟨r6, σ7, hc, hf⟩ := obd_some hf
    refine zr_callNv (As := [.int (2 : Int32), .int r1]) (rest := []) X J q5 (ho_C_X0 hq5).1 (ho_C_X0 hq5).2.1 (ho_C_X0 hq5).2.2 yy_X0_addWith mw_methodLinkNest_TinyCExpressions_129_TinyCCode_addWith_IIV_TinyC (d := 0) (zR_ok (by omega) (by decide)) hl.1 rfl (Nat.le_of_ble_eq_true rfl) (tX0_addWith hq5 hc) dX2_variable_55 (fun H locs J => ?_)
    refine lv_aload_n hx hb dX2_variable_58 rfl (lv_at hl 1 rfl) ?_
    obtain ⟨q8, hq8, er, hf⟩ := rbd_some hf
    refine gf_X2_43 X J er dX2_variable_59 ?_
    refine lv_iconst (v := (2 : Int32)) hx hb dX2_variable_62 (by decide) ?_
    refine lv_iload_n hx hb dX2_variable_63 rfl (lv_at hl 0 rfl) ?_
    refine lv_iconst (v := (-1 : Int32)) hx hb dX2_variable_64 (by decide) ?_
    refine lv_iconst (v := (-1 : Int32)) hx hb dX2_variable_65 (by decide) ?_
    obtain ⟨r9, σ10, hc, hf⟩ := obd_some hf
    refine zr_callNi (As := [.int (2 : Int32), .int r1, .int (-1 : Int32), .int (-1 : Int32)]) (rest := []) X J q8 (ho_C_X9 hq8).1 (ho_C_X9 hq8).2.1 (ho_C_X9 hq8).2.2 yy_X9_add mw_methodLinkNest_TinyCExpressions_116_TinyCTree_add_IIIII_TinyC (d := 0) (zR_ok (by omega) (by decide)) hl.1 rfl (Nat.le_of_ble_eq_true rfl) (tX9_add hq8 hc) dX2_variable_66 (fun H locs J => ?_)
    exact zr_iret X J hf dX2_variable_69
  · have hf := itn h hf
    refine lv_aload_n hx hb dX2_variable_21 rfl (lv_at hl 1 rfl) ?_
    obtain ⟨q11, hq11, er, hf⟩ := rbd_some hf
    refine gf_X2_48 X J er dX2_variable_22 ?_
    refine lv_iconst (v := (4 : Int32)) hx hb dX2_variable_25 (by decide) ?_
    refine lv_iload_n hx hb dX2_variable_26 rfl (lv_at hl 0 rfl) ?_
    obtain ⟨r12, σ13, hc, hf⟩ := obd_some hf
    refine zr_callNv (As := [.int (4 : Int32), .int r1]) (rest := []) X J q11 (ho_C_X0 hq11).1 (ho_C_X0 hq11).2.1 (ho_C_X0 hq11).2.2 yy_X0_addWith mw_methodLinkNest_TinyCExpressions_129_TinyCCode_addWith_IIV_TinyC (d := 0) (zR_ok (by omega) (by decide)) hl.1 rfl (Nat.le_of_ble_eq_true rfl) (tX0_addWith hq11 hc) dX2_variable_27 (fun H locs J => ?_)
    refine lv_aload_n hx hb dX2_variable_30 rfl (lv_at hl 1 rfl) ?_
    obtain ⟨q14, hq14, er, hf⟩ := rbd_some hf
    refine gf_X2_43 X J er dX2_variable_31 ?_
    refine lv_iconst (v := (3 : Int32)) hx hb dX2_variable_34 (by decide) ?_
    refine lv_aload_n hx hb dX2_variable_35 rfl (lv_at hl 1 rfl) ?_
    refine gf_X2_9 X J dX2_variable_36 ?_
    refine lv_iload_n hx hb dX2_variable_39 rfl (lv_at hl 0 rfl) ?_
    obtain ⟨r15, σ16, hc, hf⟩ := obd_some hf
    refine zr_callNi (As := [.int r1]) (rest := [.int (3 : Int32), .ref (ad q14)]) X J 3 ho_C_X1.1 ho_C_X1.2.1 ho_C_X1.2.2 yy_X1_inFrame mw_methodLinkNest_TinyCExpressions_197_TinyCDesk_inFrame_II_TinyC (d := 0) (zR_ok (by omega) (by decide)) hl.1 rfl (Nat.le_of_ble_eq_true rfl) (tX1_inFrame  hc) dX2_variable_40 (fun H locs J => ?_)
    refine lv_iconst (v := (-1 : Int32)) hx hb dX2_variable_43 (by decide) ?_
    refine lv_iconst (v := (-1 : Int32)) hx hb dX2_variable_44 (by decide) ?_
    obtain ⟨r17, σ18, hc, hf⟩ := obd_some hf
    refine zr_callNi (As := [.int (3 : Int32), .int r15, .int (-1 : Int32), .int (-1 : Int32)]) (rest := []) X J q14 (ho_C_X9 hq14).1 (ho_C_X9 hq14).2.1 (ho_C_X9 hq14).2.2 yy_X9_add mw_methodLinkNest_TinyCExpressions_116_TinyCTree_add_IIIII_TinyC (d := 0) (zR_ok (by omega) (by decide)) hl.1 rfl (Nat.le_of_ble_eq_true rfl) (tX9_add hq14 hc) dX2_variable_45 (fun H locs J => ?_)
    exact zr_iret X J hf dX2_variable_48
set_option maxHeartbeats 4000000 in
theorem bX2_named_157 {o : Int32 × zSt} {K : Int32 → zSt → Option (Int32 × zSt)} {dk : Nat} (hdk : 3 ≤ dk) (hK : ∀ (b0 : Int32) (σ u : zSt) (r : Int32), K b0 σ = some (r, u) → zMi l yX2_expression cX2_expression 6 (some .int) dk D cy shC ad ts ln [.ref (ad 5), .int b0] σ r u) (X : zX p s m args meth c D cy shC ad ts cX2_named 4 (some .int) RX2)  {x2_ : Int32}  {σ : zSt} {H : Heap} {locs : List Loc} {ls : Array Slot} (J : zJ D cy shC ad ln s σ H locs) (hl : lv_has ls 4 [(0, .ref (ad 5)), (2, .int x2_)]) (hf : fX2_named_b157 ln N M K  x2_ σ = some o) : W p l e (zRm (dk + 2)) s m args below meth c H locs 0 0 (zQi D cy shC ad ts ln below args s o) (F0 m 157 ls []) := by
  have hx := X.1
  have hb := X.2.1
  unfold fX2_named_b157 at hf
  refine lv_aload_n hx hb dX2_named_157 rfl (lv_at hl 0 rfl) ?_
  refine lv_iload_n hx hb dX2_named_158 rfl (lv_at hl 1 rfl) ?_
  obtain ⟨r10, σ11, hc, hf⟩ := obd_some hf
  refine zr_calli (As := [.int x2_]) (rest := []) X J 5 ho_C_X2.1 ho_C_X2.2.1 ho_C_X2.2.2 yy_X2_variable mw_methodLink_TinyCExpressions_190_TinyCExpressions_variable_II (d := 1) (zR_ok (by omega) (by decide)) hl.1 rfl (Nat.le_of_ble_eq_true rfl) (tX2_variable  hc) dX2_named_159 (fun H locs J => ?_)
  exact zr_iret X J hf dX2_named_162
set_option maxHeartbeats 4000000 in
theorem bX2_named_37 {o : Int32 × zSt} {K : Int32 → zSt → Option (Int32 × zSt)} {dk : Nat} (hdk : 3 ≤ dk) (hK : ∀ (b0 : Int32) (σ u : zSt) (r : Int32), K b0 σ = some (r, u) → zMi l yX2_expression cX2_expression 6 (some .int) dk D cy shC ad ts ln [.ref (ad 5), .int b0] σ r u) (X : zX p s m args meth c D cy shC ad ts cX2_named 4 (some .int) RX2)  {x1_ : Int32} {x2_ : Int32}  {σ : zSt} {H : Heap} {locs : List Loc} {ls : Array Slot} (J : zJ D cy shC ad ln s σ H locs) (hl : lv_has ls 4 [(0, .ref (ad 5)), (1, .int x1_), (2, .int x2_)]) (hf : fX2_named_b37 ln N M K  x1_ x2_ σ = some o) : W p l e (zRm (dk + 2)) s m args below meth c H locs 0 0 (zQi D cy shC ad ts ln below args s o) (F0 m 37 ls []) := by
  have hx := X.1
  have hb := X.2.1
  unfold fX2_named_b37 at hf
  refine lv_aload_n hx hb dX2_named_37 rfl (lv_at hl 0 rfl) ?_
  refine gf_X2_9 X J dX2_named_38 ?_
  refine lv_iload_n hx hb dX2_named_41 rfl (lv_at hl 1 rfl) ?_
  obtain ⟨r4, σ5, hc, hf⟩ := obd_some hf
  refine zr_callNv (As := [.int x1_]) (rest := []) X J 3 ho_C_X1.1 ho_C_X1.2.1 ho_C_X1.2.2 yy_X1_takeCells mw_methodLinkNest_TinyCExpressions_102_TinyCDesk_takeCells_IV_TinyC (d := 1) (zR_ok (by omega) (by decide)) hl.1 rfl (Nat.le_of_ble_eq_true rfl) (tX1_takeCells  hc) dX2_named_42 (fun H locs J => ?_)
  refine lv_aload_n hx hb dX2_named_45 rfl (lv_at hl 0 rfl) ?_
  refine gf_X2_21 X J dX2_named_46 ?_
  obtain ⟨r6, σ7, hc, hf⟩ := obd_some hf
  refine zr_callNv (As := []) (rest := []) X J 1 ho_C_X7.1 ho_C_X7.2.1 ho_C_X7.2.2 yy_X7_come mw_methodLinkNest_TinyCExpressions_90_TinyCScan_come_V_TinyC (d := 1) (zR_ok (by omega) (by decide)) hl.1 rfl (Nat.le_of_ble_eq_true rfl) (tX7_come  hc) dX2_named_49 (fun H locs J => ?_)
  refine lv_aload_n hx hb dX2_named_52 rfl (lv_at hl 0 rfl) ?_
  refine gf_X2_21 X J dX2_named_53 ?_
  refine gf_X2_76 X J dX2_named_56 ?_
  refine lv_bipush (v := (49 : Int32)) hx hb dX2_named_59 (by decide) ?_
  refine lv_icmp_ne hx hb dX2_named_61 rfl (fun h => ?_) (fun h => ?_)
  · have hf := itn h hf
    refine lv_aload_n hx hb dX2_named_71 rfl (lv_at hl 0 rfl) ?_
    refine gf_X2_21 X J dX2_named_72 ?_
    refine gf_X2_76 X J dX2_named_75 ?_
    refine lv_bipush (v := (53 : Int32)) hx hb dX2_named_78 (by decide) ?_
    refine lv_icmp_ne hx hb dX2_named_80 rfl (fun h => ?_) (fun h => ?_)
    · have hf := itn h hf
      refine lv_aload_n hx hb dX2_named_141 rfl (lv_at hl 0 rfl) ?_
      refine gf_X2_26 X J dX2_named_142 ?_
      refine lv_iload_n hx hb dX2_named_145 rfl (lv_at hl 2 rfl) ?_
      obtain ⟨r8, σ9, hc, hf⟩ := obd_some hf
      refine zr_callNi (As := [.int x2_]) (rest := []) X J 4 ho_C_X4.1 ho_C_X4.2.1 ho_C_X4.2.2 yy_X4_isValue mw_methodLinkNest_TinyCExpressions_186_TinyCNames_isValue_IZ_TinyC (d := 0) (zR_ok (by omega) (by decide)) hl.1 rfl (Nat.le_of_ble_eq_true rfl) (tX4_isValue  hc) dX2_named_146 (fun H locs J => ?_)
      refine lv_if_ne hx hb dX2_named_149 rfl (fun h => ?_) (fun h => ?_)
      · have hf := itn h hf
        exact bX2_named_157 hdk hK X   J (lv_sub hl [0, 2] rfl) hf
      · have hf := itp h hf
        refine lv_aload_n hx hb dX2_named_152 rfl (lv_at hl 0 rfl) ?_
        refine lv_iload_n hx hb dX2_named_153 rfl (lv_at hl 1 rfl) ?_
        refine pf_X2_53 X J dX2_named_154 (fun σ12 H locs eq J => ?_)
        have hf := bnd_eq eq hf
        clear eq
        exact bX2_named_157 hdk hK X   J (lv_sub hl [0, 2] rfl) hf
    · have hf := itp h hf
      refine lv_aload_n hx hb dX2_named_83 rfl (lv_at hl 0 rfl) ?_
      refine lv_iload_n hx hb dX2_named_84 rfl (lv_at hl 2 rfl) ?_
      refine lv_iload_n hx hb dX2_named_85 rfl (lv_at hl 1 rfl) ?_
      obtain ⟨r13, σ14, hc, hf⟩ := obd_some hf
      refine zr_calli (As := [.int x2_, .int x1_]) (rest := []) X J 5 ho_C_X2.1 ho_C_X2.2.1 ho_C_X2.2.2 yy_X2_index mw_methodLink_TinyCExpressions_174_TinyCExpressions_index_III (d := dk + 1) (zR_ok (by omega) (by decide)) hl.1 rfl (Nat.le_of_ble_eq_true rfl) (tX2_index hdk hK  hc) dX2_named_86 (fun H locs J => ?_)
      refine lv_istore_n hx hb dX2_named_89 rfl hl (by decide) rfl (fun ls hl => ?_)
      have hl : lv_has ls 4 [(3, .int r13), (0, .ref (ad 5)), (1, .int x1_), (2, .int x2_)] := hl
      refine lv_aload_n hx hb dX2_named_90 rfl (lv_at hl 1 rfl) ?_
      obtain ⟨q15, hq15, er, hf⟩ := rbd_some hf
      refine gf_X2_48 X J er dX2_named_91 ?_
      refine lv_bipush (v := (6 : Int32)) hx hb dX2_named_94 (by decide) ?_
      refine lv_aload_n hx hb dX2_named_96 rfl (lv_at hl 1 rfl) ?_
      refine gf_X2_26 X J dX2_named_97 ?_
      refine lv_iload_n hx hb dX2_named_100 rfl (lv_at hl 3 rfl) ?_
      obtain ⟨r16, σ17, hc, hf⟩ := obd_some hf
      refine zr_callNi (As := [.int x2_]) (rest := [.int (6 : Int32), .ref (ad q15)]) X J 4 ho_C_X4.1 ho_C_X4.2.1 ho_C_X4.2.2 yy_X4_placeOf mw_methodLinkNest_TinyCExpressions_177_TinyCNames_placeOf_II_TinyC (d := 0) (zR_ok (by omega) (by decide)) hl.1 rfl (Nat.le_of_ble_eq_true rfl) (tX4_placeOf  hc) dX2_named_101 (fun H locs J => ?_)
      refine lv_aload_n hx hb dX2_named_104 rfl (lv_at hl 1 rfl) ?_
      refine gf_X2_26 X J dX2_named_105 ?_
      refine lv_iload_n hx hb dX2_named_108 rfl (lv_at hl 3 rfl) ?_
      obtain ⟨r18, σ19, hc, hf⟩ := obd_some hf
      refine zr_callNi (As := [.int x2_]) (rest := [.int r16, .int (6 : Int32), .ref (ad q15)]) X J 4 ho_C_X4.1 ho_C_X4.2.1 ho_C_X4.2.2 yy_X4_countOf mw_methodLinkNest_TinyCExpressions_180_TinyCNames_countOf_II_TinyC (d := 0) (zR_ok (by omega) (by decide)) hl.1 rfl (Nat.le_of_ble_eq_true rfl) (tX4_countOf  hc) dX2_named_109 (fun H locs J => ?_)
      obtain ⟨r20, σ21, hc, hf⟩ := obd_some hf
      refine zr_callNv (As := [.int (6 : Int32), .int r16, .int r18]) (rest := []) X J q15 (ho_C_X0 hq15).1 (ho_C_X0 hq15).2.1 (ho_C_X0 hq15).2.2 yy_X0_addWithTwo mw_methodLinkNest_TinyCExpressions_183_TinyCCode_addWithTwo_IIIV_TinyC (d := 0) (zR_ok (by omega) (by decide)) hl.1 rfl (Nat.le_of_ble_eq_true rfl) (tX0_addWithTwo hq15 hc) dX2_named_112 (fun H locs J => ?_)
      refine lv_aload_n hx hb dX2_named_115 rfl (lv_at hl 1 rfl) ?_
      obtain ⟨q22, hq22, er, hf⟩ := rbd_some hf
      refine gf_X2_43 X J er dX2_named_116 ?_
      refine lv_iconst (v := (4 : Int32)) hx hb dX2_named_119 (by decide) ?_
      refine lv_aload_n hx hb dX2_named_120 rfl (lv_at hl 1 rfl) ?_
      refine gf_X2_26 X J dX2_named_121 ?_
      refine lv_iload_n hx hb dX2_named_124 rfl (lv_at hl 3 rfl) ?_
      obtain ⟨r23, σ24, hc, hf⟩ := obd_some hf
      refine zr_callNi (As := [.int x2_]) (rest := [.int (4 : Int32), .ref (ad q22)]) X J 4 ho_C_X4.1 ho_C_X4.2.1 ho_C_X4.2.2 yy_X4_placeOf mw_methodLinkNest_TinyCExpressions_177_TinyCNames_placeOf_II_TinyC (d := 0) (zR_ok (by omega) (by decide)) hl.1 rfl (Nat.le_of_ble_eq_true rfl) (tX4_placeOf  hc) dX2_named_125 (fun H locs J => ?_)
      refine lv_iload_n hx hb dX2_named_128 rfl (lv_at hl 0 rfl) ?_
      refine lv_aload_n hx hb dX2_named_129 rfl (lv_at hl 1 rfl) ?_
      refine gf_X2_26 X J dX2_named_130 ?_
      refine lv_iload_n hx hb dX2_named_133 rfl (lv_at hl 3 rfl) ?_
      obtain ⟨r25, σ26, hc, hf⟩ := obd_some hf
      refine zr_callNi (As := [.int x2_]) (rest := [.int r13, .int r23, .int (4 : Int32), .ref (ad q22)]) X J 4 ho_C_X4.1 ho_C_X4.2.1 ho_C_X4.2.2 yy_X4_countOf mw_methodLinkNest_TinyCExpressions_180_TinyCNames_countOf_II_TinyC (d := 0) (zR_ok (by omega) (by decide)) hl.1 rfl (Nat.le_of_ble_eq_true rfl) (tX4_countOf  hc) dX2_named_134 (fun H locs J => ?_)
      obtain ⟨r27, σ28, hc, hf⟩ := obd_some hf
      refine zr_callNi (As := [.int (4 : Int32), .int r23, .int r13, .int r25]) (rest := []) X J q22 (ho_C_X9 hq22).1 (ho_C_X9 hq22).2.1 (ho_C_X9 hq22).2.2 yy_X9_add mw_methodLinkNest_TinyCExpressions_116_TinyCTree_add_IIIII_TinyC (d := 0) (zR_ok (by omega) (by decide)) hl.1 rfl (Nat.le_of_ble_eq_true rfl) (tX9_add hq22 hc) dX2_named_137 (fun H locs J => ?_)
      exact zr_iret X J hf dX2_named_140
  · have hf := itp h hf
    refine lv_aload_n hx hb dX2_named_64 rfl (lv_at hl 0 rfl) ?_
    refine lv_iload_n hx hb dX2_named_65 rfl (lv_at hl 2 rfl) ?_
    refine lv_iload_n hx hb dX2_named_66 rfl (lv_at hl 1 rfl) ?_
    obtain ⟨r29, σ30, hc, hf⟩ := obd_some hf
    refine zr_calli (As := [.int x2_, .int x1_]) (rest := []) X J 5 ho_C_X2.1 ho_C_X2.2.1 ho_C_X2.2.2 yy_X2_call mw_methodLink_TinyCExpressions_171_TinyCExpressions_call_III (d := dk + 1) (zR_ok (by omega) (by decide)) hl.1 rfl (Nat.le_of_ble_eq_true rfl) (tX2_call hdk hK  hc) dX2_named_67 (fun H locs J => ?_)
    exact zr_iret X J hf dX2_named_70
set_option maxHeartbeats 4000000 in
theorem tX2_named {K : Int32 → zSt → Option (Int32 × zSt)} {dk : Nat} (hdk : 3 ≤ dk) (hK : ∀ (b0 : Int32) (σ u : zSt) (r : Int32), K b0 σ = some (r, u) → zMi l yX2_expression cX2_expression 6 (some .int) dk D cy shC ad ts ln [.ref (ad 5), .int b0] σ r u)   {σ u : zSt} {r : Int32} (hf : fX2_named ln N M K  σ = some (r, u)) : zMi l yX2_named cX2_named 4 (some .int) (dk + 2) D cy shC ad ts ln [.ref (ad 5)] σ r u := by
  refine zM_of (by decide) (Nat.le_of_ble_eq_true rfl) (fun p e s m args below meth c ls ha X J hl => ?_)
  have hx := X.1
  have hb := X.2.1
  have hl : lv_has ls 4 [(0, .ref (ad 5))] := hl
  generalize s.heap = H at J ⊢
  generalize ([] : List Loc) = locs at J ⊢
  show W p l e (zRm (dk + 2)) s m args below meth c H locs 0 0 (zQi D cy shC ad ts ln below args s (r, u)) (F0 m 0 ls [])
  unfold fX2_named at hf
  refine lv_aload_n hx hb dX2_named_0 rfl (lv_at hl 0 rfl) ?_
  refine gf_X2_21 X J dX2_named_1 ?_
  refine gf_X2_99 X J dX2_named_4 ?_
  refine lv_topi (fun x1 eq => ?_)
  have hf := bnd_eq eq hf
  clear eq
  refine lv_istore_n hx hb dX2_named_7 rfl hl (by decide) rfl (fun ls hl => ?_)
  have hl : lv_has ls 4 [(1, .int x1), (0, .ref (ad 5))] := hl
  refine lv_aload_n hx hb dX2_named_8 rfl (lv_at hl 1 rfl) ?_
  refine gf_X2_26 X J dX2_named_9 ?_
  refine lv_aload_n hx hb dX2_named_12 rfl (lv_at hl 1 rfl) ?_
  refine gf_X2_21 X J dX2_named_13 ?_
  refine gf_X2_162 X J dX2_named_16 ?_
  refine lv_iconst (v := (0 : Int32)) hx hb dX2_named_19 (by decide) ?_
  obtain ⟨r2, σ3, hc, hf⟩ := obd_some hf
  refine zr_callNi (As := [.long (zL σ 1 5), .int (0 : Int32)]) (rest := []) X J 4 ho_C_X4.1 ho_C_X4.2.1 ho_C_X4.2.2 yy_X4_find mw_methodLinkNest_TinyCExpressions_165_TinyCNames_find_JII_TinyC (d := 0) (zR_ok (by omega) (by decide)) hl.1 rfl (Nat.le_of_ble_eq_true rfl) (tX4_find  hc) dX2_named_20 (fun H locs J => ?_)
  refine lv_istore_n hx hb dX2_named_23 rfl hl (by decide) rfl (fun ls hl => ?_)
  have hl : lv_has ls 4 [(2, .int r2), (1, .int x1), (0, .ref (ad 5))] := hl
  refine lv_iload_n hx hb dX2_named_24 rfl (lv_at hl 0 rfl) ?_
  refine lv_if_ge hx hb dX2_named_25 rfl (fun h => ?_) (fun h => ?_)
  · have hf := itp h hf
    exact bX2_named_37 hdk hK X   J (lv_sub hl [2, 1, 0] rfl) hf
  · have hf := itn h hf
    refine lv_aload_n hx hb dX2_named_28 rfl (lv_at hl 2 rfl) ?_
    refine gf_X2_21 X J dX2_named_29 ?_
    refine lv_iconst (v := (3 : Int32)) hx hb dX2_named_32 (by decide) ?_
    refine lv_iload_n hx hb dX2_named_33 rfl (lv_at hl 1 rfl) ?_
    obtain ⟨r31, σ32, hc, hf⟩ := obd_some hf
    refine zr_callNv (As := [.int (3 : Int32), .int x1]) (rest := []) X J 1 ho_C_X7.1 ho_C_X7.2.1 ho_C_X7.2.2 yy_X7_fail mw_methodLinkNest_TinyCExpressions_125_TinyCScan_fail_IIV_TinyC (d := 0) (zR_ok (by omega) (by decide)) hl.1 rfl (Nat.le_of_ble_eq_true rfl) (tX7_fail  hc) dX2_named_34 (fun H locs J => ?_)
    exact bX2_named_37 hdk hK X   J (lv_sub hl [2, 1, 0] rfl) hf
set_option maxHeartbeats 4000000 in
theorem tX2_reading   {σ u : zSt} {r : Int32} (hf : fX2_reading ln N M  σ = some (r, u)) : zMi l yX2_reading cX2_reading 1 (some .int) (2) D cy shC ad ts ln [.ref (ad 5)] σ r u := by
  refine zM_of (by decide) (Nat.le_of_ble_eq_true rfl) (fun p e s m args below meth c ls ha X J hl => ?_)
  have hx := X.1
  have hb := X.2.1
  have hl : lv_has ls 1 [(0, .ref (ad 5))] := hl
  generalize s.heap = H at J ⊢
  generalize ([] : List Loc) = locs at J ⊢
  show W p l e (zRm (2)) s m args below meth c H locs 0 0 (zQi D cy shC ad ts ln below args s (r, u)) (F0 m 0 ls [])
  unfold fX2_reading at hf
  refine lv_aload_n hx hb dX2_reading_0 rfl (lv_at hl 0 rfl) ?_
  refine gf_X2_9 X J dX2_reading_1 ?_
  refine lv_aload_n hx hb dX2_reading_4 rfl (lv_at hl 0 rfl) ?_
  refine gf_X2_21 X J dX2_reading_5 ?_
  refine gf_X2_99 X J dX2_reading_8 ?_
  obtain ⟨r1, σ2, hc, hf⟩ := obd_some hf
  refine zr_callNv (As := [.int (zI σ 1 4)]) (rest := []) X J 3 ho_C_X1.1 ho_C_X1.2.1 ho_C_X1.2.2 yy_X1_takeCells mw_methodLinkNest_TinyCExpressions_102_TinyCDesk_takeCells_IV_TinyC (d := 1) (zR_ok (by omega) (by decide)) hl.1 rfl (Nat.le_of_ble_eq_true rfl) (tX1_takeCells  hc) dX2_reading_11 (fun H locs J => ?_)
  refine lv_aload_n hx hb dX2_reading_14 rfl (lv_at hl 0 rfl) ?_
  refine gf_X2_21 X J dX2_reading_15 ?_
  obtain ⟨r3, σ4, hc, hf⟩ := obd_some hf
  refine zr_callNv (As := []) (rest := []) X J 1 ho_C_X7.1 ho_C_X7.2.1 ho_C_X7.2.2 yy_X7_come mw_methodLinkNest_TinyCExpressions_90_TinyCScan_come_V_TinyC (d := 1) (zR_ok (by omega) (by decide)) hl.1 rfl (Nat.le_of_ble_eq_true rfl) (tX7_come  hc) dX2_reading_18 (fun H locs J => ?_)
  refine lv_aload_n hx hb dX2_reading_21 rfl (lv_at hl 0 rfl) ?_
  refine gf_X2_21 X J dX2_reading_22 ?_
  refine lv_bipush (v := (49 : Int32)) hx hb dX2_reading_25 (by decide) ?_
  obtain ⟨r5, σ6, hc, hf⟩ := obd_some hf
  refine zr_callNv (As := [.int (49 : Int32)]) (rest := []) X J 1 ho_C_X7.1 ho_C_X7.2.1 ho_C_X7.2.2 yy_X7_need mw_methodLinkNest_TinyCExpressions_156_TinyCScan_need_IV_TinyC (d := 1) (zR_ok (by omega) (by decide)) hl.1 rfl (Nat.le_of_ble_eq_true rfl) (tX7_need  hc) dX2_reading_27 (fun H locs J => ?_)
  refine lv_aload_n hx hb dX2_reading_30 rfl (lv_at hl 0 rfl) ?_
  refine gf_X2_9 X J dX2_reading_31 ?_
  obtain ⟨r7, σ8, hc, hf⟩ := obd_some hf
  refine zr_callNv (As := []) (rest := []) X J 3 ho_C_X1.1 ho_C_X1.2.1 ho_C_X1.2.2 yy_X1_enter mw_methodLinkNest_TinyCExpressions_96_TinyCDesk_enter_V_TinyC (d := 1) (zR_ok (by omega) (by decide)) hl.1 rfl (Nat.le_of_ble_eq_true rfl) (tX1_enter  hc) dX2_reading_34 (fun H locs J => ?_)
  refine lv_aload_n hx hb dX2_reading_37 rfl (lv_at hl 0 rfl) ?_
  refine gf_X2_21 X J dX2_reading_38 ?_
  obtain ⟨r9, σ10, hc, hf⟩ := obd_some hf
  refine zr_callNv (As := []) (rest := []) X J 1 ho_C_X7.1 ho_C_X7.2.1 ho_C_X7.2.2 yy_X7_come mw_methodLinkNest_TinyCExpressions_90_TinyCScan_come_V_TinyC (d := 1) (zR_ok (by omega) (by decide)) hl.1 rfl (Nat.le_of_ble_eq_true rfl) (tX7_come  hc) dX2_reading_41 (fun H locs J => ?_)
  refine lv_aload_n hx hb dX2_reading_44 rfl (lv_at hl 0 rfl) ?_
  refine gf_X2_21 X J dX2_reading_45 ?_
  refine lv_bipush (v := (50 : Int32)) hx hb dX2_reading_48 (by decide) ?_
  obtain ⟨r11, σ12, hc, hf⟩ := obd_some hf
  refine zr_callNv (As := [.int (50 : Int32)]) (rest := []) X J 1 ho_C_X7.1 ho_C_X7.2.1 ho_C_X7.2.2 yy_X7_need mw_methodLinkNest_TinyCExpressions_156_TinyCScan_need_IV_TinyC (d := 1) (zR_ok (by omega) (by decide)) hl.1 rfl (Nat.le_of_ble_eq_true rfl) (tX7_need  hc) dX2_reading_50 (fun H locs J => ?_)
  refine lv_aload_n hx hb dX2_reading_53 rfl (lv_at hl 0 rfl) ?_
  refine gf_X2_9 X J dX2_reading_54 ?_
  obtain ⟨r13, σ14, hc, hf⟩ := obd_some hf
  refine zr_callNv (As := []) (rest := []) X J 3 ho_C_X1.1 ho_C_X1.2.1 ho_C_X1.2.2 yy_X1_leave mw_methodLinkNest_TinyCExpressions_119_TinyCDesk_leave_V_TinyC (d := 0) (zR_ok (by omega) (by decide)) hl.1 rfl (Nat.le_of_ble_eq_true rfl) (tX1_leave  hc) dX2_reading_57 (fun H locs J => ?_)
  refine lv_aload_n hx hb dX2_reading_60 rfl (lv_at hl 0 rfl) ?_
  refine gf_X2_21 X J dX2_reading_61 ?_
  obtain ⟨r15, σ16, hc, hf⟩ := obd_some hf
  refine zr_callNv (As := []) (rest := []) X J 1 ho_C_X7.1 ho_C_X7.2.1 ho_C_X7.2.2 yy_X7_come mw_methodLinkNest_TinyCExpressions_90_TinyCScan_come_V_TinyC (d := 1) (zR_ok (by omega) (by decide)) hl.1 rfl (Nat.le_of_ble_eq_true rfl) (tX7_come  hc) dX2_reading_64 (fun H locs J => ?_)
  refine lv_aload_n hx hb dX2_reading_67 rfl (lv_at hl 0 rfl) ?_
  obtain ⟨q17, hq17, er, hf⟩ := rbd_some hf
  refine gf_X2_48 X J er dX2_reading_68 ?_
  refine lv_bipush (v := (35 : Int32)) hx hb dX2_reading_71 (by decide) ?_
  obtain ⟨r18, σ19, hc, hf⟩ := obd_some hf
  refine zr_callNv (As := [.int (35 : Int32)]) (rest := []) X J q17 (ho_C_X0 hq17).1 (ho_C_X0 hq17).2.1 (ho_C_X0 hq17).2.2 yy_X0_add mw_methodLinkNest_TinyCExpressions_109_TinyCCode_add_IV_TinyC (d := 0) (zR_ok (by omega) (by decide)) hl.1 rfl (Nat.le_of_ble_eq_true rfl) (tX0_add hq17 hc) dX2_reading_73 (fun H locs J => ?_)
  refine lv_aload_n hx hb dX2_reading_76 rfl (lv_at hl 0 rfl) ?_
  obtain ⟨q20, hq20, er, hf⟩ := rbd_some hf
  refine gf_X2_43 X J er dX2_reading_77 ?_
  refine lv_iconst (v := (5 : Int32)) hx hb dX2_reading_80 (by decide) ?_
  refine lv_iconst (v := (0 : Int32)) hx hb dX2_reading_81 (by decide) ?_
  refine lv_iconst (v := (-1 : Int32)) hx hb dX2_reading_82 (by decide) ?_
  refine lv_iconst (v := (-1 : Int32)) hx hb dX2_reading_83 (by decide) ?_
  obtain ⟨r21, σ22, hc, hf⟩ := obd_some hf
  refine zr_callNi (As := [.int (5 : Int32), .int (0 : Int32), .int (-1 : Int32), .int (-1 : Int32)]) (rest := []) X J q20 (ho_C_X9 hq20).1 (ho_C_X9 hq20).2.1 (ho_C_X9 hq20).2.2 yy_X9_add mw_methodLinkNest_TinyCExpressions_116_TinyCTree_add_IIIII_TinyC (d := 0) (zR_ok (by omega) (by decide)) hl.1 rfl (Nat.le_of_ble_eq_true rfl) (tX9_add hq20 hc) dX2_reading_84 (fun H locs J => ?_)
  exact zr_iret X J hf dX2_reading_87
set_option maxHeartbeats 4000000 in
theorem tX2_bracketed {K : Int32 → zSt → Option (Int32 × zSt)} {dk : Nat} (hdk : 3 ≤ dk) (hK : ∀ (b0 : Int32) (σ u : zSt) (r : Int32), K b0 σ = some (r, u) → zMi l yX2_expression cX2_expression 6 (some .int) dk D cy shC ad ts ln [.ref (ad 5), .int b0] σ r u)   {σ u : zSt} {r : Int32} (hf : fX2_bracketed ln N M K  σ = some (r, u)) : zMi l yX2_bracketed cX2_bracketed 2 (some .int) (dk + 1) D cy shC ad ts ln [.ref (ad 5)] σ r u := by
  refine zM_of (by decide) (Nat.le_of_ble_eq_true rfl) (fun p e s m args below meth c ls ha X J hl => ?_)
  have hx := X.1
  have hb := X.2.1
  have hl : lv_has ls 2 [(0, .ref (ad 5))] := hl
  generalize s.heap = H at J ⊢
  generalize ([] : List Loc) = locs at J ⊢
  show W p l e (zRm (dk + 1)) s m args below meth c H locs 0 0 (zQi D cy shC ad ts ln below args s (r, u)) (F0 m 0 ls [])
  unfold fX2_bracketed at hf
  refine lv_aload_n hx hb dX2_bracketed_0 rfl (lv_at hl 0 rfl) ?_
  refine gf_X2_21 X J dX2_bracketed_1 ?_
  refine lv_bipush (v := (49 : Int32)) hx hb dX2_bracketed_4 (by decide) ?_
  obtain ⟨r1, σ2, hc, hf⟩ := obd_some hf
  refine zr_callNv (As := [.int (49 : Int32)]) (rest := []) X J 1 ho_C_X7.1 ho_C_X7.2.1 ho_C_X7.2.2 yy_X7_need mw_methodLinkNest_TinyCExpressions_156_TinyCScan_need_IV_TinyC (d := 1) (zR_ok (by omega) (by decide)) hl.1 rfl (Nat.le_of_ble_eq_true rfl) (tX7_need  hc) dX2_bracketed_6 (fun H locs J => ?_)
  refine lv_aload_n hx hb dX2_bracketed_9 rfl (lv_at hl 0 rfl) ?_
  refine gf_X2_9 X J dX2_bracketed_10 ?_
  obtain ⟨r3, σ4, hc, hf⟩ := obd_some hf
  refine zr_callNv (As := []) (rest := []) X J 3 ho_C_X1.1 ho_C_X1.2.1 ho_C_X1.2.2 yy_X1_enter mw_methodLinkNest_TinyCExpressions_96_TinyCDesk_enter_V_TinyC (d := 1) (zR_ok (by omega) (by decide)) hl.1 rfl (Nat.le_of_ble_eq_true rfl) (tX1_enter  hc) dX2_bracketed_13 (fun H locs J => ?_)
  refine lv_aload_n hx hb dX2_bracketed_16 rfl (lv_at hl 0 rfl) ?_
  refine gf_X2_21 X J dX2_bracketed_17 ?_
  obtain ⟨r5, σ6, hc, hf⟩ := obd_some hf
  refine zr_callNv (As := []) (rest := []) X J 1 ho_C_X7.1 ho_C_X7.2.1 ho_C_X7.2.2 yy_X7_come mw_methodLinkNest_TinyCExpressions_90_TinyCScan_come_V_TinyC (d := 1) (zR_ok (by omega) (by decide)) hl.1 rfl (Nat.le_of_ble_eq_true rfl) (tX7_come  hc) dX2_bracketed_20 (fun H locs J => ?_)
  refine lv_aload_n hx hb dX2_bracketed_23 rfl (lv_at hl 0 rfl) ?_
  refine lv_bipush (v := (50 : Int32)) hx hb dX2_bracketed_24 (by decide) ?_
  obtain ⟨r7, σ8, hc, hf⟩ := obd_some hf
  refine zr_calli (As := [.int (50 : Int32)]) (rest := []) X J 5 ho_C_X2.1 ho_C_X2.2.1 ho_C_X2.2.2 yy_X2_expression mw_methodLink_TinyCExpressions_159_TinyCExpressions_expression_II (d := dk) (zR_ok (by omega) (by decide)) hl.1 rfl (Nat.le_of_ble_eq_true rfl) (hK _ _ _ _ hc) dX2_bracketed_26 (fun H locs J => ?_)
  refine lv_istore_n hx hb dX2_bracketed_29 rfl hl (by decide) rfl (fun ls hl => ?_)
  have hl : lv_has ls 2 [(1, .int r7), (0, .ref (ad 5))] := hl
  refine lv_aload_n hx hb dX2_bracketed_30 rfl (lv_at hl 1 rfl) ?_
  refine gf_X2_9 X J dX2_bracketed_31 ?_
  obtain ⟨r9, σ10, hc, hf⟩ := obd_some hf
  refine zr_callNv (As := []) (rest := []) X J 3 ho_C_X1.1 ho_C_X1.2.1 ho_C_X1.2.2 yy_X1_leave mw_methodLinkNest_TinyCExpressions_119_TinyCDesk_leave_V_TinyC (d := 0) (zR_ok (by omega) (by decide)) hl.1 rfl (Nat.le_of_ble_eq_true rfl) (tX1_leave  hc) dX2_bracketed_34 (fun H locs J => ?_)
  refine lv_aload_n hx hb dX2_bracketed_37 rfl (lv_at hl 1 rfl) ?_
  refine gf_X2_21 X J dX2_bracketed_38 ?_
  obtain ⟨r11, σ12, hc, hf⟩ := obd_some hf
  refine zr_callNv (As := []) (rest := []) X J 1 ho_C_X7.1 ho_C_X7.2.1 ho_C_X7.2.2 yy_X7_come mw_methodLinkNest_TinyCExpressions_90_TinyCScan_come_V_TinyC (d := 1) (zR_ok (by omega) (by decide)) hl.1 rfl (Nat.le_of_ble_eq_true rfl) (tX7_come  hc) dX2_bracketed_41 (fun H locs J => ?_)
  refine lv_iload_n hx hb dX2_bracketed_44 rfl (lv_at hl 0 rfl) ?_
  exact zr_iret X J hf dX2_bracketed_45
set_option maxHeartbeats 4000000 in
theorem tX2_operand {K : Int32 → zSt → Option (Int32 × zSt)} {dk : Nat} (hdk : 3 ≤ dk) (hK : ∀ (b0 : Int32) (σ u : zSt) (r : Int32), K b0 σ = some (r, u) → zMi l yX2_expression cX2_expression 6 (some .int) dk D cy shC ad ts ln [.ref (ad 5), .int b0] σ r u)   {σ u : zSt} {r : Int32} (hf : fX2_operand ln N M K  σ = some (r, u)) : zMi l yX2_operand cX2_operand 1 (some .int) (dk + 3) D cy shC ad ts ln [.ref (ad 5)] σ r u := by
  refine zM_of (by decide) (Nat.le_of_ble_eq_true rfl) (fun p e s m args below meth c ls ha X J hl => ?_)
  have hx := X.1
  have hb := X.2.1
  have hl : lv_has ls 1 [(0, .ref (ad 5))] := hl
  generalize s.heap = H at J ⊢
  generalize ([] : List Loc) = locs at J ⊢
  show W p l e (zRm (dk + 3)) s m args below meth c H locs 0 0 (zQi D cy shC ad ts ln below args s (r, u)) (F0 m 0 ls [])
  unfold fX2_operand at hf
  refine lv_aload_n hx hb dX2_operand_0 rfl (lv_at hl 0 rfl) ?_
  refine gf_X2_21 X J dX2_operand_1 ?_
  refine gf_X2_76 X J dX2_operand_4 ?_
  refine lv_topi (fun x1 eq => ?_)
  have hf := bnd_eq eq hf
  clear eq
  by_cases h0_ : x1 = (40 : Int32)
  · have hf := itp h0_ hf
    rw [h0_]
    refine lv_tableIn hx hb dX2_operand_7 (by decide) (by decide) (tgt := 65) (by rfl) (by decide) ?_
    refine lv_aload_n hx hb dX2_operand_65 rfl (lv_at hl 0 rfl) ?_
    obtain ⟨r2, σ3, hc, hf⟩ := obd_some hf
    refine zr_calli (As := []) (rest := []) X J 5 ho_C_X2.1 ho_C_X2.2.1 ho_C_X2.2.2 yy_X2_named mw_methodLink_TinyCExpressions_142_TinyCExpressions_named_I (d := dk + 2) (zR_ok (by omega) (by decide)) hl.1 rfl (Nat.le_of_ble_eq_true rfl) (tX2_named hdk hK  hc) dX2_operand_66 (fun H locs J => ?_)
    exact zr_iret X J hf dX2_operand_69
  have hf := itn h0_ hf
  by_cases h1_ : x1 = (41 : Int32)
  · have hf := itp h1_ hf
    rw [h1_]
    refine lv_tableIn hx hb dX2_operand_7 (by decide) (by decide) (tgt := 60) (by rfl) (by decide) ?_
    refine lv_aload_n hx hb dX2_operand_60 rfl (lv_at hl 0 rfl) ?_
    obtain ⟨r4, σ5, hc, hf⟩ := obd_some hf
    refine zr_calli (As := []) (rest := []) X J 5 ho_C_X2.1 ho_C_X2.2.1 ho_C_X2.2.2 yy_X2_number mw_methodLink_TinyCExpressions_139_TinyCExpressions_number_I (d := 2) (zR_ok (by omega) (by decide)) hl.1 rfl (Nat.le_of_ble_eq_true rfl) (tX2_number  hc) dX2_operand_61 (fun H locs J => ?_)
    exact zr_iret X J hf dX2_operand_64
  have hf := itn h1_ hf
  by_cases h2_ : x1 = (42 : Int32)
  · have hf := itp h2_ hf
    rw [h2_]
    refine lv_tableIn hx hb dX2_operand_7 (by decide) (by decide) (tgt := 80) (by rfl) (by decide) ?_
    refine lv_aload_n hx hb dX2_operand_80 rfl (lv_at hl 0 rfl) ?_
    refine gf_X2_21 X J dX2_operand_81 ?_
    refine lv_iconst (v := (2 : Int32)) hx hb dX2_operand_84 (by decide) ?_
    obtain ⟨r6, σ7, hc, hf⟩ := obd_some hf
    refine zr_callNv (As := [.int (2 : Int32)]) (rest := []) X J 1 ho_C_X7.1 ho_C_X7.2.1 ho_C_X7.2.2 yy_X7_failHere mw_methodLinkNest_TinyCExpressions_122_TinyCScan_failHere_IV_TinyC (d := 0) (zR_ok (by omega) (by decide)) hl.1 rfl (Nat.le_of_ble_eq_true rfl) (tX7_failHere  hc) dX2_operand_85 (fun H locs J => ?_)
    refine lv_iconst (v := (-1 : Int32)) hx hb dX2_operand_88 (by decide) ?_
    exact zr_iret X J hf dX2_operand_89
  have hf := itn h2_ hf
  by_cases h3_ : x1 = (43 : Int32)
  · have hf := itp h3_ hf
    rw [h3_]
    refine lv_tableIn hx hb dX2_operand_7 (by decide) (by decide) (tgt := 80) (by rfl) (by decide) ?_
    refine lv_aload_n hx hb dX2_operand_80 rfl (lv_at hl 0 rfl) ?_
    refine gf_X2_21 X J dX2_operand_81 ?_
    refine lv_iconst (v := (2 : Int32)) hx hb dX2_operand_84 (by decide) ?_
    obtain ⟨r8, σ9, hc, hf⟩ := obd_some hf
    refine zr_callNv (As := [.int (2 : Int32)]) (rest := []) X J 1 ho_C_X7.1 ho_C_X7.2.1 ho_C_X7.2.2 yy_X7_failHere mw_methodLinkNest_TinyCExpressions_122_TinyCScan_failHere_IV_TinyC (d := 0) (zR_ok (by omega) (by decide)) hl.1 rfl (Nat.le_of_ble_eq_true rfl) (tX7_failHere  hc) dX2_operand_85 (fun H locs J => ?_)
    refine lv_iconst (v := (-1 : Int32)) hx hb dX2_operand_88 (by decide) ?_
    exact zr_iret X J hf dX2_operand_89
  have hf := itn h3_ hf
  by_cases h4_ : x1 = (44 : Int32)
  · have hf := itp h4_ hf
    rw [h4_]
    refine lv_tableIn hx hb dX2_operand_7 (by decide) (by decide) (tgt := 80) (by rfl) (by decide) ?_
    refine lv_aload_n hx hb dX2_operand_80 rfl (lv_at hl 0 rfl) ?_
    refine gf_X2_21 X J dX2_operand_81 ?_
    refine lv_iconst (v := (2 : Int32)) hx hb dX2_operand_84 (by decide) ?_
    obtain ⟨r10, σ11, hc, hf⟩ := obd_some hf
    refine zr_callNv (As := [.int (2 : Int32)]) (rest := []) X J 1 ho_C_X7.1 ho_C_X7.2.1 ho_C_X7.2.2 yy_X7_failHere mw_methodLinkNest_TinyCExpressions_122_TinyCScan_failHere_IV_TinyC (d := 0) (zR_ok (by omega) (by decide)) hl.1 rfl (Nat.le_of_ble_eq_true rfl) (tX7_failHere  hc) dX2_operand_85 (fun H locs J => ?_)
    refine lv_iconst (v := (-1 : Int32)) hx hb dX2_operand_88 (by decide) ?_
    exact zr_iret X J hf dX2_operand_89
  have hf := itn h4_ hf
  by_cases h5_ : x1 = (45 : Int32)
  · have hf := itp h5_ hf
    rw [h5_]
    refine lv_tableIn hx hb dX2_operand_7 (by decide) (by decide) (tgt := 80) (by rfl) (by decide) ?_
    refine lv_aload_n hx hb dX2_operand_80 rfl (lv_at hl 0 rfl) ?_
    refine gf_X2_21 X J dX2_operand_81 ?_
    refine lv_iconst (v := (2 : Int32)) hx hb dX2_operand_84 (by decide) ?_
    obtain ⟨r12, σ13, hc, hf⟩ := obd_some hf
    refine zr_callNv (As := [.int (2 : Int32)]) (rest := []) X J 1 ho_C_X7.1 ho_C_X7.2.1 ho_C_X7.2.2 yy_X7_failHere mw_methodLinkNest_TinyCExpressions_122_TinyCScan_failHere_IV_TinyC (d := 0) (zR_ok (by omega) (by decide)) hl.1 rfl (Nat.le_of_ble_eq_true rfl) (tX7_failHere  hc) dX2_operand_85 (fun H locs J => ?_)
    refine lv_iconst (v := (-1 : Int32)) hx hb dX2_operand_88 (by decide) ?_
    exact zr_iret X J hf dX2_operand_89
  have hf := itn h5_ hf
  by_cases h6_ : x1 = (46 : Int32)
  · have hf := itp h6_ hf
    rw [h6_]
    refine lv_tableIn hx hb dX2_operand_7 (by decide) (by decide) (tgt := 80) (by rfl) (by decide) ?_
    refine lv_aload_n hx hb dX2_operand_80 rfl (lv_at hl 0 rfl) ?_
    refine gf_X2_21 X J dX2_operand_81 ?_
    refine lv_iconst (v := (2 : Int32)) hx hb dX2_operand_84 (by decide) ?_
    obtain ⟨r14, σ15, hc, hf⟩ := obd_some hf
    refine zr_callNv (As := [.int (2 : Int32)]) (rest := []) X J 1 ho_C_X7.1 ho_C_X7.2.1 ho_C_X7.2.2 yy_X7_failHere mw_methodLinkNest_TinyCExpressions_122_TinyCScan_failHere_IV_TinyC (d := 0) (zR_ok (by omega) (by decide)) hl.1 rfl (Nat.le_of_ble_eq_true rfl) (tX7_failHere  hc) dX2_operand_85 (fun H locs J => ?_)
    refine lv_iconst (v := (-1 : Int32)) hx hb dX2_operand_88 (by decide) ?_
    exact zr_iret X J hf dX2_operand_89
  have hf := itn h6_ hf
  by_cases h7_ : x1 = (47 : Int32)
  · have hf := itp h7_ hf
    rw [h7_]
    refine lv_tableIn hx hb dX2_operand_7 (by decide) (by decide) (tgt := 80) (by rfl) (by decide) ?_
    refine lv_aload_n hx hb dX2_operand_80 rfl (lv_at hl 0 rfl) ?_
    refine gf_X2_21 X J dX2_operand_81 ?_
    refine lv_iconst (v := (2 : Int32)) hx hb dX2_operand_84 (by decide) ?_
    obtain ⟨r16, σ17, hc, hf⟩ := obd_some hf
    refine zr_callNv (As := [.int (2 : Int32)]) (rest := []) X J 1 ho_C_X7.1 ho_C_X7.2.1 ho_C_X7.2.2 yy_X7_failHere mw_methodLinkNest_TinyCExpressions_122_TinyCScan_failHere_IV_TinyC (d := 0) (zR_ok (by omega) (by decide)) hl.1 rfl (Nat.le_of_ble_eq_true rfl) (tX7_failHere  hc) dX2_operand_85 (fun H locs J => ?_)
    refine lv_iconst (v := (-1 : Int32)) hx hb dX2_operand_88 (by decide) ?_
    exact zr_iret X J hf dX2_operand_89
  have hf := itn h7_ hf
  by_cases h8_ : x1 = (48 : Int32)
  · have hf := itp h8_ hf
    rw [h8_]
    refine lv_tableIn hx hb dX2_operand_7 (by decide) (by decide) (tgt := 70) (by rfl) (by decide) ?_
    refine lv_aload_n hx hb dX2_operand_70 rfl (lv_at hl 0 rfl) ?_
    obtain ⟨r18, σ19, hc, hf⟩ := obd_some hf
    refine zr_calli (As := []) (rest := []) X J 5 ho_C_X2.1 ho_C_X2.2.1 ho_C_X2.2.2 yy_X2_reading mw_methodLink_TinyCExpressions_145_TinyCExpressions_reading_I (d := 2) (zR_ok (by omega) (by decide)) hl.1 rfl (Nat.le_of_ble_eq_true rfl) (tX2_reading  hc) dX2_operand_71 (fun H locs J => ?_)
    exact zr_iret X J hf dX2_operand_74
  have hf := itn h8_ hf
  by_cases h9_ : x1 = (49 : Int32)
  · have hf := itp h9_ hf
    rw [h9_]
    refine lv_tableIn hx hb dX2_operand_7 (by decide) (by decide) (tgt := 75) (by rfl) (by decide) ?_
    refine lv_aload_n hx hb dX2_operand_75 rfl (lv_at hl 0 rfl) ?_
    obtain ⟨r20, σ21, hc, hf⟩ := obd_some hf
    refine zr_calli (As := []) (rest := []) X J 5 ho_C_X2.1 ho_C_X2.2.1 ho_C_X2.2.2 yy_X2_bracketed mw_methodLink_TinyCExpressions_148_TinyCExpressions_bracketed_I (d := dk + 1) (zR_ok (by omega) (by decide)) hl.1 rfl (Nat.le_of_ble_eq_true rfl) (tX2_bracketed hdk hK  hc) dX2_operand_76 (fun H locs J => ?_)
    exact zr_iret X J hf dX2_operand_79
  have hf := itn h9_ hf
  refine lv_tableOut hx hb dX2_operand_7 (tgt := 80) (by have := lv_neT h0_ (a := 40) (by decide); have := lv_neT h1_ (a := 41) (by decide); have := lv_neT h2_ (a := 42) (by decide); have := lv_neT h3_ (a := 43) (by decide); have := lv_neT h4_ (a := 44) (by decide); have := lv_neT h5_ (a := 45) (by decide); have := lv_neT h6_ (a := 46) (by decide); have := lv_neT h7_ (a := 47) (by decide); have := lv_neT h8_ (a := 48) (by decide); have := lv_neT h9_ (a := 49) (by decide); omega) (by decide) ?_
  refine lv_aload_n hx hb dX2_operand_80 rfl (lv_at hl 0 rfl) ?_
  refine gf_X2_21 X J dX2_operand_81 ?_
  refine lv_iconst (v := (2 : Int32)) hx hb dX2_operand_84 (by decide) ?_
  obtain ⟨r22, σ23, hc, hf⟩ := obd_some hf
  refine zr_callNv (As := [.int (2 : Int32)]) (rest := []) X J 1 ho_C_X7.1 ho_C_X7.2.1 ho_C_X7.2.2 yy_X7_failHere mw_methodLinkNest_TinyCExpressions_122_TinyCScan_failHere_IV_TinyC (d := 0) (zR_ok (by omega) (by decide)) hl.1 rfl (Nat.le_of_ble_eq_true rfl) (tX7_failHere  hc) dX2_operand_85 (fun H locs J => ?_)
  refine lv_iconst (v := (-1 : Int32)) hx hb dX2_operand_88 (by decide) ?_
  exact zr_iret X J hf dX2_operand_89
set_option maxHeartbeats 4000000 in
theorem bX2_closeOnes_10 {o : Int32 × zSt} (X : zX p s m args meth c D cy shC ad ts cX2_closeOnes 5 (some .int) RX2)  : ∀ (n : Nat) (x2_ : Int32) (x3_ : Int32) (x4_ : Int32) (σ : zSt) (H : Heap) (locs : List Loc) (ls : Array Slot), zJ D cy shC ad ln s σ H locs → lv_has ls 5 [(0, .ref (ad 5)), (2, .int x2_), (3, .int x3_), (4, .int x4_)] → fX2_closeOnes_b10 ln N M  n x2_ x3_ x4_ σ = some o → W p l e (zRm (1)) s m args below meth c H locs 0 0 (zQi D cy shC ad ts ln below args s o) (F0 m 10 ls []) := by
  have hx := X.1
  have hb := X.2.1
  intro n
  induction n with
  | zero =>
    intro x2_ x3_ x4_ σ H locs ls J hl hf
    rw [fX2_closeOnes_b10] at hf
    cases hf
  | succ n ih =>
    intro x2_ x3_ x4_ σ H locs ls J hl hf
    rw [fX2_closeOnes_b10] at hf
    refine lv_iload hx hb dX2_closeOnes_10 (lv_at hl 3 rfl) ?_
    refine lv_iload_n hx hb dX2_closeOnes_12 rfl (lv_at hl 1 rfl) ?_
    refine lv_icmp_lt hx hb dX2_closeOnes_13 rfl (fun h => ?_) (fun h => ?_)
    · have hf := itp h hf
      refine lv_iload_n hx hb dX2_closeOnes_110 rfl (lv_at hl 2 rfl) ?_
      exact zr_iret X J hf dX2_closeOnes_111
    · have hf := itn h hf
      refine lv_iload hx hb dX2_closeOnes_16 (lv_at hl 3 rfl) ?_
      refine lv_if_lt hx hb dX2_closeOnes_18 rfl (fun h => ?_) (fun h => ?_)
      · have hf := itp h hf
        refine lv_iload_n hx hb dX2_closeOnes_110 rfl (lv_at hl 2 rfl) ?_
        exact zr_iret X J hf dX2_closeOnes_111
      · have hf := itn h hf
        refine lv_iload hx hb dX2_closeOnes_21 (lv_at hl 3 rfl) ?_
        refine lv_aload_n hx hb dX2_closeOnes_23 rfl (lv_at hl 0 rfl) ?_
        refine gf_X2_27 X J dX2_closeOnes_24 ?_
        refine an_X2_X2f3 X J dX2_closeOnes_27 ?_
        refine lv_icmp_ge hx hb dX2_closeOnes_28 rfl (fun h => ?_) (fun h => ?_)
        · have hf := itp h hf
          refine lv_iload_n hx hb dX2_closeOnes_110 rfl (lv_at hl 2 rfl) ?_
          exact zr_iret X J hf dX2_closeOnes_111
        · have hf := itn h hf
          refine lv_aload_n hx hb dX2_closeOnes_31 rfl (lv_at hl 0 rfl) ?_
          refine gf_X2_27 X J dX2_closeOnes_32 ?_
          refine lv_iload hx hb dX2_closeOnes_35 (lv_at hl 3 rfl) ?_
          obtain ⟨hin, hf⟩ := itx hf
          refine al_X2_X2f3 X J hin dX2_closeOnes_37 ?_
          refine lv_bipush (v := (24 : Int32)) hx hb dX2_closeOnes_38 (by decide) ?_
          refine lv_icmp_lt hx hb dX2_closeOnes_40 rfl (fun h => ?_) (fun h => ?_)
          · have hf := itp h hf
            refine lv_iload_n hx hb dX2_closeOnes_110 rfl (lv_at hl 2 rfl) ?_
            exact zr_iret X J hf dX2_closeOnes_111
          · have hf := itn h hf
            refine lv_aload_n hx hb dX2_closeOnes_43 rfl (lv_at hl 0 rfl) ?_
            refine gf_X2_27 X J dX2_closeOnes_44 ?_
            refine lv_iload hx hb dX2_closeOnes_47 (lv_at hl 3 rfl) ?_
            obtain ⟨hin, hf⟩ := itx hf
            refine al_X2_X2f3 X J hin dX2_closeOnes_49 ?_
            refine lv_bipush (v := (26 : Int32)) hx hb dX2_closeOnes_50 (by decide) ?_
            refine lv_icmp_le hx hb dX2_closeOnes_52 rfl (fun h => ?_) (fun h => ?_)
            · have hf := itp h hf
              refine lv_aload_n hx hb dX2_closeOnes_58 rfl (lv_at hl 0 rfl) ?_
              obtain ⟨q2, hq2, er, hf⟩ := rbd_some hf
              refine gf_X2_48 X J er dX2_closeOnes_59 ?_
              refine lv_aload_n hx hb dX2_closeOnes_62 rfl (lv_at hl 0 rfl) ?_
              refine gf_X2_27 X J dX2_closeOnes_63 ?_
              refine lv_iload hx hb dX2_closeOnes_66 (lv_at hl 3 rfl) ?_
              obtain ⟨hin, hf⟩ := itx hf
              refine al_X2_X2f3 X J hin dX2_closeOnes_68 ?_
              obtain ⟨r3, σ4, hc, hf⟩ := obd_some hf
              refine zr_callNv (As := [.int (zA σ 21 x4_.toNatClampNeg)]) (rest := []) X J q2 (ho_C_X0 hq2).1 (ho_C_X0 hq2).2.1 (ho_C_X0 hq2).2.2 yy_X0_add mw_methodLinkNest_TinyCExpressions_109_TinyCCode_add_IV_TinyC (d := 0) (zR_ok (by omega) (by decide)) hl.1 rfl (Nat.le_of_ble_eq_true rfl) (tX0_add hq2 hc) dX2_closeOnes_69 (fun H locs J => ?_)
              refine lv_aload_n hx hb dX2_closeOnes_72 rfl (lv_at hl 0 rfl) ?_
              obtain ⟨q5, hq5, er, hf⟩ := rbd_some hf
              refine gf_X2_43 X J er dX2_closeOnes_73 ?_
              refine lv_bipush (v := (6 : Int32)) hx hb dX2_closeOnes_76 (by decide) ?_
              refine lv_aload_n hx hb dX2_closeOnes_78 rfl (lv_at hl 0 rfl) ?_
              refine gf_X2_27 X J dX2_closeOnes_79 ?_
              refine lv_iload hx hb dX2_closeOnes_82 (lv_at hl 3 rfl) ?_
              obtain ⟨hin, hf⟩ := itx hf
              refine al_X2_X2f3 X J hin dX2_closeOnes_84 ?_
              refine lv_iload_n hx hb dX2_closeOnes_85 rfl (lv_at hl 2 rfl) ?_
              refine lv_iconst (v := (-1 : Int32)) hx hb dX2_closeOnes_86 (by decide) ?_
              obtain ⟨r6, σ7, hc, hf⟩ := obd_some hf
              refine zr_callNi (As := [.int (6 : Int32), .int (zA σ4 21 x4_.toNatClampNeg), .int x3_, .int (-1 : Int32)]) (rest := []) X J q5 (ho_C_X9 hq5).1 (ho_C_X9 hq5).2.1 (ho_C_X9 hq5).2.2 yy_X9_add mw_methodLinkNest_TinyCExpressions_116_TinyCTree_add_IIIII_TinyC (d := 0) (zR_ok (by omega) (by decide)) hl.1 rfl (Nat.le_of_ble_eq_true rfl) (tX9_add hq5 hc) dX2_closeOnes_87 (fun H locs J => ?_)
              refine lv_istore_n hx hb dX2_closeOnes_90 rfl hl (by decide) rfl (fun ls hl => ?_)
              have hl : lv_has ls 5 [(3, .int r6), (0, .ref (ad 5)), (2, .int x2_), (4, .int x4_)] := hl
              refine lv_aload_n hx hb dX2_closeOnes_91 rfl (lv_at hl 1 rfl) ?_
              refine gf_X2_9 X J dX2_closeOnes_92 ?_
              obtain ⟨r8, σ9, hc, hf⟩ := obd_some hf
              refine zr_callNv (As := []) (rest := []) X J 3 ho_C_X1.1 ho_C_X1.2.1 ho_C_X1.2.2 yy_X1_leave mw_methodLinkNest_TinyCExpressions_119_TinyCDesk_leave_V_TinyC (d := 0) (zR_ok (by omega) (by decide)) hl.1 rfl (Nat.le_of_ble_eq_true rfl) (tX1_leave  hc) dX2_closeOnes_95 (fun H locs J => ?_)
              refine lv_aload_n hx hb dX2_closeOnes_98 rfl (lv_at hl 1 rfl) ?_
              refine lv_iload hx hb dX2_closeOnes_99 (lv_at hl 3 rfl) ?_
              refine pf_X2_49 X J dX2_closeOnes_101 (fun σ10 H locs eq J => ?_)
              have hf := bnd_eq eq hf
              clear eq
              obtain ⟨x11, eq⟩ : ∃ z, z = x4_ + (-1 : Int32) := ⟨_, rfl⟩
              have hf := bnd_eq eq hf
              refine lv_iinc hx hb dX2_closeOnes_104 hl (k := 3) rfl (v := x11) (by rw [eq]; rfl) (by decide) rfl (fun ls hl => ?_)
              clear eq
              have hl : lv_has ls 5 [(4, .int x11), (3, .int r6), (0, .ref (ad 5)), (2, .int x2_)] := hl
              refine lv_goto hx hb dX2_closeOnes_107 rfl ?_
              exact ih _ _ _ _ _ _ _ J (lv_sub hl [2, 3, 1, 0] rfl) hf
            · have hf := itn h hf
              refine lv_goto hx hb dX2_closeOnes_55 rfl ?_
              refine lv_iload_n hx hb dX2_closeOnes_110 rfl (lv_at hl 2 rfl) ?_
              exact zr_iret X J hf dX2_closeOnes_111
set_option maxHeartbeats 4000000 in
theorem tX2_closeOnes {a1_ : Int32} {a2_ : Int32}  {σ u : zSt} {r : Int32} (hf : fX2_closeOnes ln N M a1_ a2_ σ = some (r, u)) : zMi l yX2_closeOnes cX2_closeOnes 5 (some .int) (1) D cy shC ad ts ln [.ref (ad 5), .int a1_, .int a2_] σ r u := by
  refine zM_of (by decide) (Nat.le_of_ble_eq_true rfl) (fun p e s m args below meth c ls ha X J hl => ?_)
  have hx := X.1
  have hb := X.2.1
  have hl : lv_has ls 5 [(0, .ref (ad 5)), (1, .int a1_), (2, .int a2_)] := hl
  generalize s.heap = H at J ⊢
  generalize ([] : List Loc) = locs at J ⊢
  show W p l e (zRm (1)) s m args below meth c H locs 0 0 (zQi D cy shC ad ts ln below args s (r, u)) (F0 m 0 ls [])
  unfold fX2_closeOnes at hf
  refine lv_iload_n hx hb dX2_closeOnes_0 rfl (lv_at hl 1 rfl) ?_
  refine lv_istore_n hx hb dX2_closeOnes_1 rfl hl (by decide) rfl (fun ls hl => ?_)
  have hl : lv_has ls 5 [(3, .int a1_), (0, .ref (ad 5)), (1, .int a1_), (2, .int a2_)] := hl
  refine lv_aload_n hx hb dX2_closeOnes_2 rfl (lv_at hl 1 rfl) ?_
  refine gf_X2_49 X J dX2_closeOnes_3 ?_
  refine lv_iconst (v := (1 : Int32)) hx hb dX2_closeOnes_6 (by decide) ?_
  refine lv_isub hx hb dX2_closeOnes_7 ?_
  refine lv_topi (fun x1 eq => ?_)
  have hf := bnd_eq eq hf
  clear eq
  refine lv_istore hx hb dX2_closeOnes_8 hl (by decide) rfl (fun ls hl => ?_)
  have hl : lv_has ls 5 [(4, .int x1), (3, .int a1_), (0, .ref (ad 5)), (1, .int a1_), (2, .int a2_)] := hl
  exact bX2_closeOnes_10 X  N _ _ _ _ _ _ _ J (lv_sub hl [2, 4, 1, 0] rfl) hf
set_option maxHeartbeats 4000000 in
theorem tX2_rankOf {a0_ : Int32}  {σ u : zSt} {r : Int32} (hf : fX2_rankOf ln N M a0_ σ = some (r, u)) : zMi l yX2_rankOf cX2_rankOf 1 (some .int) (0) D cy shC ad ts ln [.int a0_] σ r u := by
  refine zM_of (by decide) (Nat.le_of_ble_eq_true rfl) (fun p e s m args below meth c ls ha X J hl => ?_)
  have hx := X.1
  have hb := X.2.1
  have hl : lv_has ls 1 [(0, .int a0_)] := hl
  generalize s.heap = H at J ⊢
  generalize ([] : List Loc) = locs at J ⊢
  show W p l e (zRm (0)) s m args below meth c H locs 0 0 (zQi D cy shC ad ts ln below args s (r, u)) (F0 m 0 ls [])
  unfold fX2_rankOf at hf
  refine lv_iload_n hx hb dX2_rankOf_0 rfl (lv_at hl 0 rfl) ?_
  refine lv_if_lt hx hb dX2_rankOf_1 rfl (fun h => ?_) (fun h => ?_)
  · have hf := itp h hf
    refine lv_iconst (v := (0 : Int32)) hx hb dX2_rankOf_20 (by decide) ?_
    exact zr_iret X J hf dX2_rankOf_21
  · have hf := itn h hf
    refine lv_iload_n hx hb dX2_rankOf_4 rfl (lv_at hl 0 rfl) ?_
    refine gs_X2_93 X J dX2_rankOf_5 ?_
    refine sn_X2_RANKS X J dX2_rankOf_8 ?_
    refine lv_icmp_ge hx hb dX2_rankOf_9 rfl (fun h => ?_) (fun h => ?_)
    · have hf := itp h hf
      refine lv_iconst (v := (0 : Int32)) hx hb dX2_rankOf_20 (by decide) ?_
      exact zr_iret X J hf dX2_rankOf_21
    · have hf := itn h hf
      refine gs_X2_93 X J dX2_rankOf_12 ?_
      refine lv_iload_n hx hb dX2_rankOf_15 rfl (lv_at hl 0 rfl) ?_
      obtain ⟨hin, hf⟩ := itx hf
      refine sl_X2_RANKS X J hin dX2_rankOf_16 ?_
      refine lv_goto hx hb dX2_rankOf_17 rfl ?_
      exact zr_iret X J hf dX2_rankOf_21
set_option maxHeartbeats 4000000 in
theorem bX2_settle_60 {o : Unit × zSt} (X : zX p s m args meth c D cy shC ad ts cX2_settle 3 none RX2)    {σ : zSt} {H : Heap} {locs : List Loc} {ls : Array Slot} (J : zJ D cy shC ad ln s σ H locs) (hl : lv_has ls 3 [(0, .ref (ad 5))]) (hf : fX2_settle_b60 ln N M   σ = some o) : W p l e (zRm (1)) s m args below meth c H locs 0 0 (zQv D cy shC ad ts ln below args s o) (F0 m 60 ls []) := by
  have hx := X.1
  have hb := X.2.1
  unfold fX2_settle_b60 at hf
  refine lv_aload_n hx hb dX2_settle_60 rfl (lv_at hl 0 rfl) ?_
  refine gf_X2_53 X J dX2_settle_61 ?_
  refine lv_if_lt hx hb dX2_settle_64 rfl (fun h => ?_) (fun h => ?_)
  · have hf := itp h hf
    exact zr_vret X J hf dX2_settle_84
  · have hf := itn h hf
    refine lv_aload_n hx hb dX2_settle_67 rfl (lv_at hl 0 rfl) ?_
    refine gf_X2_21 X J dX2_settle_68 ?_
    refine lv_iconst (v := (5 : Int32)) hx hb dX2_settle_71 (by decide) ?_
    refine lv_aload_n hx hb dX2_settle_72 rfl (lv_at hl 0 rfl) ?_
    refine gf_X2_53 X J dX2_settle_73 ?_
    obtain ⟨r1, σ2, hc, hf⟩ := obd_some hf
    refine zr_callNv (As := [.int (5 : Int32), .int (zI σ 5 7)]) (rest := []) X J 1 ho_C_X7.1 ho_C_X7.2.1 ho_C_X7.2.2 yy_X7_fail mw_methodLinkNest_TinyCExpressions_125_TinyCScan_fail_IIV_TinyC (d := 0) (zR_ok (by omega) (by decide)) hl.1 rfl (Nat.le_of_ble_eq_true rfl) (tX7_fail  hc) dX2_settle_76 (fun H locs J => ?_)
    refine lv_aload_n hx hb dX2_settle_79 rfl (lv_at hl 0 rfl) ?_
    refine lv_iconst (v := (-1 : Int32)) hx hb dX2_settle_80 (by decide) ?_
    refine pf_X2_53 X J dX2_settle_81 (fun σ3 H locs eq J => ?_)
    have hf := bnd_eq eq hf
    clear eq
    exact zr_vret X J hf dX2_settle_84
set_option maxHeartbeats 4000000 in
theorem bX2_settle_34 {o : Unit × zSt} (X : zX p s m args meth c D cy shC ad ts cX2_settle 3 none RX2)  {s0_ : Int32}  {σ : zSt} {H : Heap} {locs : List Loc} {ls : Array Slot} (J : zJ D cy shC ad ln s σ H locs) (hl : lv_has ls 3 [(0, .ref (ad 5))]) (hf : fX2_settle_b34 ln N M  s0_ σ = some o) : W p l e (zRm (1)) s m args below meth c H locs 0 0 (zQv D cy shC ad ts ln below args s o) (F0 m 34 ls [.int s0_]) := by
  have hx := X.1
  have hb := X.2.1
  unfold fX2_settle_b34 at hf
  refine lv_istore_n hx hb dX2_settle_34 rfl hl (by decide) rfl (fun ls hl => ?_)
  have hl : lv_has ls 3 [(2, .int s0_), (0, .ref (ad 5))] := hl
  refine lv_iload_n hx hb dX2_settle_35 rfl (lv_at hl 0 rfl) ?_
  refine lv_if_ne hx hb dX2_settle_36 rfl (fun h => ?_) (fun h => ?_)
  · have hf := itn h hf
    exact bX2_settle_60 X   J (lv_sub hl [1] rfl) hf
  · have hf := itp h hf
    refine lv_aload_n hx hb dX2_settle_39 rfl (lv_at hl 1 rfl) ?_
    refine gf_X2_21 X J dX2_settle_40 ?_
    refine gf_X2_76 X J dX2_settle_43 ?_
    obtain ⟨r4, σ5, hc, hf⟩ := obd_some hf
    refine zr_callSi (As := [.int (zI σ 1 3)]) (rest := []) X J yy_X2_rankOf mw_methodLink_TinyCExpressions_79_TinyCExpressions_rankOf_II (d := 0) (zR_ok (by omega) (by decide)) hl.1 rfl (Nat.le_of_ble_eq_true rfl) (tX2_rankOf  hc) dX2_settle_46 (fun H locs J => ?_)
    refine lv_if_ne hx hb dX2_settle_49 rfl (fun h => ?_) (fun h => ?_)
    · have hf := itn h hf
      exact bX2_settle_60 X   J (lv_sub hl [1] rfl) hf
    · have hf := itp h hf
      refine lv_aload_n hx hb dX2_settle_52 rfl (lv_at hl 1 rfl) ?_
      refine gf_X2_21 X J dX2_settle_53 ?_
      refine lv_iconst (v := (2 : Int32)) hx hb dX2_settle_56 (by decide) ?_
      obtain ⟨r6, σ7, hc, hf⟩ := obd_some hf
      refine zr_callNv (As := [.int (2 : Int32)]) (rest := []) X J 1 ho_C_X7.1 ho_C_X7.2.1 ho_C_X7.2.2 yy_X7_failHere mw_methodLinkNest_TinyCExpressions_122_TinyCScan_failHere_IV_TinyC (d := 0) (zR_ok (by omega) (by decide)) hl.1 rfl (Nat.le_of_ble_eq_true rfl) (tX7_failHere  hc) dX2_settle_57 (fun H locs J => ?_)
      exact bX2_settle_60 X   J (lv_sub hl [1] rfl) hf
set_option maxHeartbeats 4000000 in
theorem bX2_settle_29 {o : Unit × zSt} (X : zX p s m args meth c D cy shC ad ts cX2_settle 3 none RX2)    {σ : zSt} {H : Heap} {locs : List Loc} {ls : Array Slot} (J : zJ D cy shC ad ln s σ H locs) (hl : lv_has ls 3 [(0, .ref (ad 5))]) (hf : fX2_settle_b29 ln N M   σ = some o) : W p l e (zRm (1)) s m args below meth c H locs 0 0 (zQv D cy shC ad ts ln below args s o) (F0 m 29 ls []) := by
  have hx := X.1
  have hb := X.2.1
  unfold fX2_settle_b29 at hf
  refine lv_iconst (v := (1 : Int32)) hx hb dX2_settle_29 (by decide) ?_
  refine lv_goto hx hb dX2_settle_30 rfl ?_
  exact bX2_settle_34 X   J (lv_sub hl [0] rfl) hf
set_option maxHeartbeats 4000000 in
theorem bX2_settle_33 {o : Unit × zSt} (X : zX p s m args meth c D cy shC ad ts cX2_settle 3 none RX2)    {σ : zSt} {H : Heap} {locs : List Loc} {ls : Array Slot} (J : zJ D cy shC ad ln s σ H locs) (hl : lv_has ls 3 [(0, .ref (ad 5))]) (hf : fX2_settle_b33 ln N M   σ = some o) : W p l e (zRm (1)) s m args below meth c H locs 0 0 (zQv D cy shC ad ts ln below args s o) (F0 m 33 ls []) := by
  have hx := X.1
  have hb := X.2.1
  unfold fX2_settle_b33 at hf
  refine lv_iconst (v := (0 : Int32)) hx hb dX2_settle_33 (by decide) ?_
  exact bX2_settle_34 X   J (lv_sub hl [0] rfl) hf
set_option maxHeartbeats 4000000 in
theorem tX2_settle {a1_ : Int32}  {σ u : zSt} {r : Unit} (hf : fX2_settle ln N M a1_ σ = some (r, u)) : zMv l yX2_settle cX2_settle 3 none (1) D cy shC ad ts ln [.ref (ad 5), .int a1_] σ u := by
  refine zM_of (by decide) (Nat.le_of_ble_eq_true rfl) (fun p e s m args below meth c ls ha X J hl => ?_)
  have hx := X.1
  have hb := X.2.1
  have hl : lv_has ls 3 [(0, .ref (ad 5)), (1, .int a1_)] := hl
  generalize s.heap = H at J ⊢
  generalize ([] : List Loc) = locs at J ⊢
  show W p l e (zRm (1)) s m args below meth c H locs 0 0 (zQv D cy shC ad ts ln below args s (r, u)) (F0 m 0 ls [])
  unfold fX2_settle at hf
  refine lv_aload_n hx hb dX2_settle_0 rfl (lv_at hl 0 rfl) ?_
  refine gf_X2_21 X J dX2_settle_1 ?_
  refine gf_X2_76 X J dX2_settle_4 ?_
  refine lv_iload_n hx hb dX2_settle_7 rfl (lv_at hl 1 rfl) ?_
  refine lv_icmp_eq hx hb dX2_settle_8 rfl (fun h => ?_) (fun h => ?_)
  · have hf := itp h hf
    exact bX2_settle_29 X   J (lv_sub hl [0] rfl) hf
  · have hf := itn h hf
    refine lv_iload_n hx hb dX2_settle_11 rfl (lv_at hl 1 rfl) ?_
    refine lv_bipush (v := (55 : Int32)) hx hb dX2_settle_12 (by decide) ?_
    refine lv_icmp_ne hx hb dX2_settle_14 rfl (fun h => ?_) (fun h => ?_)
    · have hf := itn h hf
      exact bX2_settle_33 X   J (lv_sub hl [0] rfl) hf
    · have hf := itp h hf
      refine lv_aload_n hx hb dX2_settle_17 rfl (lv_at hl 0 rfl) ?_
      refine gf_X2_21 X J dX2_settle_18 ?_
      refine gf_X2_76 X J dX2_settle_21 ?_
      refine lv_bipush (v := (50 : Int32)) hx hb dX2_settle_24 (by decide) ?_
      refine lv_icmp_ne hx hb dX2_settle_26 rfl (fun h => ?_) (fun h => ?_)
      · have hf := itn h hf
        exact bX2_settle_33 X   J (lv_sub hl [0] rfl) hf
      · have hf := itp h hf
        exact bX2_settle_29 X   J (lv_sub hl [0] rfl) hf
set_option maxHeartbeats 4000000 in
theorem bX2_endChoice_79 {o : Unit × zSt} (X : zX p s m args meth c D cy shC ad ts cX2_endChoice 5 none RX2)  {s0_ : Int32} {s1_ : Int32} {s2_ : Nat} (hs2_ : s2_ = 13 ∨ s2_ = 14) {σ : zSt} {H : Heap} {locs : List Loc} {ls : Array Slot} (J : zJ D cy shC ad ln s σ H locs) (hl : lv_has ls 5 []) (hf : fX2_endChoice_b79 ln N M  s0_ s1_ s2_ σ = some o) : W p l e (zRm (1)) s m args below meth c H locs 0 0 (zQv D cy shC ad ts ln below args s o) (F0 m 79 ls [.int s0_, .int s1_, .ref (ad s2_)]) := by
  have hx := X.1
  have hb := X.2.1
  unfold fX2_endChoice_b79 at hf
  obtain ⟨r18, σ19, hc, hf⟩ := obd_some hf
  refine zr_callNv (As := [.int s1_, .int s0_]) (rest := []) X J s2_ (ho_C_X0 hs2_).1 (ho_C_X0 hs2_).2.1 (ho_C_X0 hs2_).2.2 yy_X0_set mw_methodLinkNest_TinyCExpressions_136_TinyCCode_set_IIV_TinyC (d := 0) (zR_ok (by omega) (by decide)) hl.1 rfl (Nat.le_of_ble_eq_true rfl) (tX0_set hs2_ hc) dX2_endChoice_79 (fun H locs J => ?_)
  exact zr_vret X J hf dX2_endChoice_82
set_option maxHeartbeats 4000000 in
theorem tX2_endChoice {a1_ : Int32} {a2_ : Int32}  {σ u : zSt} {r : Unit} (hf : fX2_endChoice ln N M a1_ a2_ σ = some (r, u)) : zMv l yX2_endChoice cX2_endChoice 5 none (1) D cy shC ad ts ln [.ref (ad 5), .int a1_, .int a2_] σ u := by
  refine zM_of (by decide) (Nat.le_of_ble_eq_true rfl) (fun p e s m args below meth c ls ha X J hl => ?_)
  have hx := X.1
  have hb := X.2.1
  have hl : lv_has ls 5 [(0, .ref (ad 5)), (1, .int a1_), (2, .int a2_)] := hl
  generalize s.heap = H at J ⊢
  generalize ([] : List Loc) = locs at J ⊢
  show W p l e (zRm (1)) s m args below meth c H locs 0 0 (zQv D cy shC ad ts ln below args s (r, u)) (F0 m 0 ls [])
  unfold fX2_endChoice at hf
  refine lv_aload_n hx hb dX2_endChoice_0 rfl (lv_at hl 0 rfl) ?_
  obtain ⟨q1, hq1, er, hf⟩ := rbd_some hf
  refine gf_X2_48 X J er dX2_endChoice_1 ?_
  refine gf_X2_132 hq1 X J dX2_endChoice_4 ?_
  refine lv_bipush (v := (6 : Int32)) hx hb dX2_endChoice_7 (by decide) ?_
  refine lv_iadd hx hb dX2_endChoice_9 ?_
  refine lv_topi (fun x2 eq => ?_)
  have hf := bnd_eq eq hf
  clear eq
  refine lv_istore_n hx hb dX2_endChoice_10 rfl hl (by decide) rfl (fun ls hl => ?_)
  have hl : lv_has ls 5 [(3, .int x2), (0, .ref (ad 5)), (1, .int a1_), (2, .int a2_)] := hl
  refine lv_aload_n hx hb dX2_endChoice_11 rfl (lv_at hl 1 rfl) ?_
  obtain ⟨q3, hq3, er, hf⟩ := rbd_some hf
  refine gf_X2_48 X J er dX2_endChoice_12 ?_
  refine gf_X2_132 hq3 X J dX2_endChoice_15 ?_
  refine lv_bipush (v := (8 : Int32)) hx hb dX2_endChoice_18 (by decide) ?_
  refine lv_iadd hx hb dX2_endChoice_20 ?_
  refine lv_topi (fun x4 eq => ?_)
  have hf := bnd_eq eq hf
  clear eq
  refine lv_istore hx hb dX2_endChoice_21 hl (by decide) rfl (fun ls hl => ?_)
  have hl : lv_has ls 5 [(4, .int x4), (3, .int x2), (0, .ref (ad 5)), (1, .int a1_), (2, .int a2_)] := hl
  refine lv_aload_n hx hb dX2_endChoice_23 rfl (lv_at hl 2 rfl) ?_
  obtain ⟨q5, hq5, er, hf⟩ := rbd_some hf
  refine gf_X2_48 X J er dX2_endChoice_24 ?_
  refine lv_bipush (v := (31 : Int32)) hx hb dX2_endChoice_27 (by decide) ?_
  refine lv_iload_n hx hb dX2_endChoice_29 rfl (lv_at hl 1 rfl) ?_
  obtain ⟨r6, σ7, hc, hf⟩ := obd_some hf
  refine zr_callNv (As := [.int (31 : Int32), .int x2]) (rest := []) X J q5 (ho_C_X0 hq5).1 (ho_C_X0 hq5).2.1 (ho_C_X0 hq5).2.2 yy_X0_addWith mw_methodLinkNest_TinyCExpressions_129_TinyCCode_addWith_IIV_TinyC (d := 0) (zR_ok (by omega) (by decide)) hl.1 rfl (Nat.le_of_ble_eq_true rfl) (tX0_addWith hq5 hc) dX2_endChoice_30 (fun H locs J => ?_)
  refine lv_aload_n hx hb dX2_endChoice_33 rfl (lv_at hl 2 rfl) ?_
  obtain ⟨q8, hq8, er, hf⟩ := rbd_some hf
  refine gf_X2_48 X J er dX2_endChoice_34 ?_
  refine lv_iconst (v := (1 : Int32)) hx hb dX2_endChoice_37 (by decide) ?_
  refine lv_iconst (v := (1 : Int32)) hx hb dX2_endChoice_38 (by decide) ?_
  obtain ⟨r9, σ10, hc, hf⟩ := obd_some hf
  refine zr_callNv (As := [.int (1 : Int32), .int (1 : Int32)]) (rest := []) X J q8 (ho_C_X0 hq8).1 (ho_C_X0 hq8).2.1 (ho_C_X0 hq8).2.2 yy_X0_addWith mw_methodLinkNest_TinyCExpressions_129_TinyCCode_addWith_IIV_TinyC (d := 0) (zR_ok (by omega) (by decide)) hl.1 rfl (Nat.le_of_ble_eq_true rfl) (tX0_addWith hq8 hc) dX2_endChoice_39 (fun H locs J => ?_)
  refine lv_aload_n hx hb dX2_endChoice_42 rfl (lv_at hl 2 rfl) ?_
  obtain ⟨q11, hq11, er, hf⟩ := rbd_some hf
  refine gf_X2_48 X J er dX2_endChoice_43 ?_
  refine lv_bipush (v := (30 : Int32)) hx hb dX2_endChoice_46 (by decide) ?_
  refine lv_iload hx hb dX2_endChoice_48 (lv_at hl 0 rfl) ?_
  obtain ⟨r12, σ13, hc, hf⟩ := obd_some hf
  refine zr_callNv (As := [.int (30 : Int32), .int x4]) (rest := []) X J q11 (ho_C_X0 hq11).1 (ho_C_X0 hq11).2.1 (ho_C_X0 hq11).2.2 yy_X0_addWith mw_methodLinkNest_TinyCExpressions_129_TinyCCode_addWith_IIV_TinyC (d := 0) (zR_ok (by omega) (by decide)) hl.1 rfl (Nat.le_of_ble_eq_true rfl) (tX0_addWith hq11 hc) dX2_endChoice_50 (fun H locs J => ?_)
  refine lv_aload_n hx hb dX2_endChoice_53 rfl (lv_at hl 2 rfl) ?_
  obtain ⟨q14, hq14, er, hf⟩ := rbd_some hf
  refine gf_X2_48 X J er dX2_endChoice_54 ?_
  refine lv_iconst (v := (1 : Int32)) hx hb dX2_endChoice_57 (by decide) ?_
  refine lv_iconst (v := (0 : Int32)) hx hb dX2_endChoice_58 (by decide) ?_
  obtain ⟨r15, σ16, hc, hf⟩ := obd_some hf
  refine zr_callNv (As := [.int (1 : Int32), .int (0 : Int32)]) (rest := []) X J q14 (ho_C_X0 hq14).1 (ho_C_X0 hq14).2.1 (ho_C_X0 hq14).2.2 yy_X0_addWith mw_methodLinkNest_TinyCExpressions_129_TinyCCode_addWith_IIV_TinyC (d := 0) (zR_ok (by omega) (by decide)) hl.1 rfl (Nat.le_of_ble_eq_true rfl) (tX0_addWith hq14 hc) dX2_endChoice_59 (fun H locs J => ?_)
  refine lv_aload_n hx hb dX2_endChoice_62 rfl (lv_at hl 2 rfl) ?_
  obtain ⟨q17, hq17, er, hf⟩ := rbd_some hf
  refine gf_X2_48 X J er dX2_endChoice_63 ?_
  refine lv_iload_n hx hb dX2_endChoice_66 rfl (lv_at hl 4 rfl) ?_
  refine lv_iload_n hx hb dX2_endChoice_67 rfl (lv_at hl 3 rfl) ?_
  refine lv_bipush (v := (8 : Int32)) hx hb dX2_endChoice_68 (by decide) ?_
  refine lv_icmp_ne hx hb dX2_endChoice_70 rfl (fun h => ?_) (fun h => ?_)
  · have hf := itn h hf
    refine lv_iload hx hb dX2_endChoice_77 (lv_at hl 0 rfl) ?_
    exact bX2_endChoice_79 X  hq17 J (lv_sub hl [] rfl) hf
  · have hf := itp h hf
    refine lv_iload_n hx hb dX2_endChoice_73 rfl (lv_at hl 1 rfl) ?_
    refine lv_goto hx hb dX2_endChoice_74 rfl ?_
    exact bX2_endChoice_79 X  hq17 J (lv_sub hl [] rfl) hf
end
