section
variable {p : Program} {l : Launch} {e : Env} {s : State} {m : MethodId} {args : Array Value} {below : List Frame} {meth : Method} {c : Code} {D : va_G} {cy : Nat → ClassId} {ad ts : Nat → Nat} {ln : Nat → Nat} {N M : Nat}
set_option maxHeartbeats 4000000 in
theorem tX10_finishLoop {a1_ : Int32}  {σ u : zSt} {r : Unit} (hf : fX10_finishLoop ln N M a1_ σ = some (r, u)) : zMv l yX10_finishLoop cX10_finishLoop 2 none (1) D cy shC ad ts ln [.ref (ad 8), .int a1_] σ u := by
  refine zM_of (by decide) (Nat.le_of_ble_eq_true rfl) (fun p e s m args below meth c ls ha X J hl => ?_)
  have hx := X.1
  have hb := X.2.1
  have hl : lv_has ls 2 [(0, .ref (ad 8)), (1, .int a1_)] := hl
  generalize s.heap = H at J ⊢
  generalize ([] : List Loc) = locs at J ⊢
  show W p l e (zRm (1)) s m args below meth c H locs 0 0 (zQv D cy shC ad ts ln below args s (r, u)) (F0 m 0 ls [])
  unfold fX10_finishLoop at hf
  refine lv_aload_n hx hb dX10_finishLoop_0 rfl (lv_at hl 0 rfl) ?_
  obtain ⟨r1, σ2, hc, hf⟩ := obd_some hf
  refine zr_calli (As := []) (rest := []) X J 8 ho_C_X10.1 ho_C_X10.2.1 ho_C_X10.2.2 yy_X10_popValue mw_methodLink_TinyCWalker_88_TinyCWalker_popValue_I (d := 0) (zR_ok (by omega) (by decide)) hl.1 rfl (Nat.le_of_ble_eq_true rfl) (tX10_popValue  hc) dX10_finishLoop_1 (fun H locs J => ?_)
  refine lv_if_eq hx hb dX10_finishLoop_4 rfl (fun h => ?_) (fun h => ?_)
  · have hf := itp h hf
    exact zr_vret X J hf dX10_finishLoop_26
  · have hf := itn h hf
    refine lv_aload_n hx hb dX10_finishLoop_7 rfl (lv_at hl 0 rfl) ?_
    refine lv_iconst (v := (0 : Int32)) hx hb dX10_finishLoop_8 (by decide) ?_
    refine lv_iload_n hx hb dX10_finishLoop_9 rfl (lv_at hl 1 rfl) ?_
    obtain ⟨r3, σ4, hc, hf⟩ := obd_some hf
    refine zr_callv (As := [.int (0 : Int32), .int a1_]) (rest := []) X J 8 ho_C_X10.1 ho_C_X10.2.1 ho_C_X10.2.2 yy_X10_pushItem mw_methodLink_TinyCWalker_78_TinyCWalker_pushItem_IIV (d := 0) (zR_ok (by omega) (by decide)) hl.1 rfl (Nat.le_of_ble_eq_true rfl) (tX10_pushItem  hc) dX10_finishLoop_10 (fun H locs J => ?_)
    refine lv_aload_n hx hb dX10_finishLoop_13 rfl (lv_at hl 0 rfl) ?_
    refine lv_iconst (v := (0 : Int32)) hx hb dX10_finishLoop_14 (by decide) ?_
    refine lv_aload_n hx hb dX10_finishLoop_15 rfl (lv_at hl 0 rfl) ?_
    obtain ⟨q5, hq5, er, hf⟩ := rbd_some hf
    refine gf_X10_44 X J er dX10_finishLoop_16 ?_
    refine lv_iload_n hx hb dX10_finishLoop_19 rfl (lv_at hl 1 rfl) ?_
    obtain ⟨r6, σ7, hc, hf⟩ := obd_some hf
    refine zr_callNi (As := [.int a1_]) (rest := [.int (0 : Int32), .ref (ad 8)]) X J q5 (ho_C_X9 hq5).1 (ho_C_X9 hq5).2.1 (ho_C_X9 hq5).2.2 yy_X9_cOf mw_methodLinkNest_TinyCWalker_160_TinyCTree_cOf_II_TinyC (d := 0) (zR_ok (by omega) (by decide)) hl.1 rfl (Nat.le_of_ble_eq_true rfl) (tX9_cOf hq5 hc) dX10_finishLoop_20 (fun H locs J => ?_)
    obtain ⟨r8, σ9, hc, hf⟩ := obd_some hf
    refine zr_callv (As := [.int (0 : Int32), .int r6]) (rest := []) X J 8 ho_C_X10.1 ho_C_X10.2.1 ho_C_X10.2.2 yy_X10_pushItem mw_methodLink_TinyCWalker_78_TinyCWalker_pushItem_IIV (d := 0) (zR_ok (by omega) (by decide)) hl.1 rfl (Nat.le_of_ble_eq_true rfl) (tX10_pushItem  hc) dX10_finishLoop_23 (fun H locs J => ?_)
    exact zr_vret X J hf dX10_finishLoop_26
set_option maxHeartbeats 4000000 in
theorem bX10_finish_181 {o : Unit × zSt} (X : zX p s m args meth c D cy shC ad ts cX10_finish 2 none RX10)  {s0_ : Int32}  {σ : zSt} {H : Heap} {locs : List Loc} {ls : Array Slot} (J : zJ D cy shC ad ln s σ H locs) (hl : lv_has ls 2 []) (hf : fX10_finish_b181 ln N M  s0_ σ = some o) : W p l e (zRm (3)) s m args below meth c H locs 0 0 (zQv D cy shC ad ts ln below args s o) (F0 m 181 ls [.int s0_, .ref (ad 8)]) := by
  have hx := X.1
  have hb := X.2.1
  unfold fX10_finish_b181 at hf
  refine pf_X10_68 X J dX10_finish_181 (fun σ27 H locs eq J => ?_)
  have hf := bnd_eq eq hf
  clear eq
  refine lv_goto hx hb dX10_finish_184 rfl ?_
  exact zr_vret X J hf dX10_finish_210
set_option maxHeartbeats 4000000 in
theorem tX10_finish {a1_ : Int32}  {σ u : zSt} {r : Unit} (hf : fX10_finish ln N M a1_ σ = some (r, u)) : zMv l yX10_finish cX10_finish 2 none (3) D cy shC ad ts ln [.ref (ad 8), .int a1_] σ u := by
  refine zM_of (by decide) (Nat.le_of_ble_eq_true rfl) (fun p e s m args below meth c ls ha X J hl => ?_)
  have hx := X.1
  have hb := X.2.1
  have hl : lv_has ls 2 [(0, .ref (ad 8)), (1, .int a1_)] := hl
  generalize s.heap = H at J ⊢
  generalize ([] : List Loc) = locs at J ⊢
  show W p l e (zRm (3)) s m args below meth c H locs 0 0 (zQv D cy shC ad ts ln below args s (r, u)) (F0 m 0 ls [])
  unfold fX10_finish at hf
  refine lv_aload_n hx hb dX10_finish_0 rfl (lv_at hl 0 rfl) ?_
  obtain ⟨q1, hq1, er, hf⟩ := rbd_some hf
  refine gf_X10_44 X J er dX10_finish_1 ?_
  refine lv_iload_n hx hb dX10_finish_4 rfl (lv_at hl 1 rfl) ?_
  obtain ⟨r2, σ3, hc, hf⟩ := obd_some hf
  refine zr_callNi (As := [.int a1_]) (rest := []) X J q1 (ho_C_X9 hq1).1 (ho_C_X9 hq1).2.1 (ho_C_X9 hq1).2.2 yy_X9_kindOf mw_methodLinkNest_TinyCWalker_120_TinyCTree_kindOf_II_TinyC (d := 0) (zR_ok (by omega) (by decide)) hl.1 rfl (Nat.le_of_ble_eq_true rfl) (tX9_kindOf hq1 hc) dX10_finish_5 (fun H locs J => ?_)
  by_cases h0_ : r2 = (4 : Int32)
  · have hf := itp h0_ hf
    rw [h0_]
    refine lv_tableIn hx hb dX10_finish_8 (by decide) (by decide) (tgt := 76) (by rfl) (by decide) ?_
    refine lv_aload_n hx hb dX10_finish_76 rfl (lv_at hl 0 rfl) ?_
    refine lv_iload_n hx hb dX10_finish_77 rfl (lv_at hl 1 rfl) ?_
    obtain ⟨r4, σ5, hc, hf⟩ := obd_some hf
    refine zr_callv (As := [.int a1_]) (rest := []) X J 8 ho_C_X10.1 ho_C_X10.2.1 ho_C_X10.2.2 yy_X10_finishItem mw_methodLink_TinyCWalker_172_TinyCWalker_finishItem_IV (d := 1) (zR_ok (by omega) (by decide)) hl.1 rfl (Nat.le_of_ble_eq_true rfl) (tX10_finishItem  hc) dX10_finish_78 (fun H locs J => ?_)
    refine lv_goto hx hb dX10_finish_81 rfl ?_
    exact zr_vret X J hf dX10_finish_210
  have hf := itn h0_ hf
  by_cases h1_ : r2 = (5 : Int32)
  · have hf := itp h1_ hf
    rw [h1_]
    refine lv_tableIn hx hb dX10_finish_8 (by decide) (by decide) (tgt := 210) (by rfl) (by decide) ?_
    exact zr_vret X J hf dX10_finish_210
  have hf := itn h1_ hf
  by_cases h2_ : r2 = (6 : Int32)
  · have hf := itp h2_ hf
    rw [h2_]
    refine lv_tableIn hx hb dX10_finish_8 (by decide) (by decide) (tgt := 84) (by rfl) (by decide) ?_
    refine lv_aload_n hx hb dX10_finish_84 rfl (lv_at hl 0 rfl) ?_
    refine lv_aload_n hx hb dX10_finish_85 rfl (lv_at hl 0 rfl) ?_
    obtain ⟨q6, hq6, er, hf⟩ := rbd_some hf
    refine gf_X10_44 X J er dX10_finish_86 ?_
    refine lv_iload_n hx hb dX10_finish_89 rfl (lv_at hl 1 rfl) ?_
    obtain ⟨r7, σ8, hc, hf⟩ := obd_some hf
    refine zr_callNi (As := [.int a1_]) (rest := [.ref (ad 8)]) X J q6 (ho_C_X9 hq6).1 (ho_C_X9 hq6).2.1 (ho_C_X9 hq6).2.2 yy_X9_aOf mw_methodLinkNest_TinyCWalker_126_TinyCTree_aOf_II_TinyC (d := 0) (zR_ok (by omega) (by decide)) hl.1 rfl (Nat.le_of_ble_eq_true rfl) (tX9_aOf hq6 hc) dX10_finish_90 (fun H locs J => ?_)
    refine lv_aload_n hx hb dX10_finish_93 rfl (lv_at hl 0 rfl) ?_
    obtain ⟨r9, σ10, hc, hf⟩ := obd_some hf
    refine zr_calli (As := []) (rest := [.int r7, .ref (ad 8)]) X J 8 ho_C_X10.1 ho_C_X10.2.1 ho_C_X10.2.2 yy_X10_popValue mw_methodLink_TinyCWalker_88_TinyCWalker_popValue_I (d := 0) (zR_ok (by omega) (by decide)) hl.1 rfl (Nat.le_of_ble_eq_true rfl) (tX10_popValue  hc) dX10_finish_94 (fun H locs J => ?_)
    obtain ⟨r11, σ12, hc, hf⟩ := obd_some hf
    refine zr_callTi (As := [.int r7, .int r9]) (rest := [.ref (ad 8)]) X J yy_X11_ofOne mw_methodLinkNest_TinyCWalker_175_TinyC_ofOne_III_TinyC (d := 0) (zR_ok (by omega) (by decide)) hl.1 rfl (Nat.le_of_ble_eq_true rfl) (tX11_ofOne  hc) dX10_finish_97 (fun H locs J => ?_)
    obtain ⟨r13, σ14, hc, hf⟩ := obd_some hf
    refine zr_callv (As := [.int r11]) (rest := []) X J 8 ho_C_X10.1 ho_C_X10.2.1 ho_C_X10.2.2 yy_X10_pushValue mw_methodLink_TinyCWalker_105_TinyCWalker_pushValue_IV (d := 0) (zR_ok (by omega) (by decide)) hl.1 rfl (Nat.le_of_ble_eq_true rfl) (tX10_pushValue  hc) dX10_finish_100 (fun H locs J => ?_)
    refine lv_goto hx hb dX10_finish_103 rfl ?_
    exact zr_vret X J hf dX10_finish_210
  have hf := itn h2_ hf
  by_cases h3_ : r2 = (7 : Int32)
  · have hf := itp h3_ hf
    rw [h3_]
    refine lv_tableIn hx hb dX10_finish_8 (by decide) (by decide) (tgt := 106) (by rfl) (by decide) ?_
    refine lv_aload_n hx hb dX10_finish_106 rfl (lv_at hl 0 rfl) ?_
    refine lv_iload_n hx hb dX10_finish_107 rfl (lv_at hl 1 rfl) ?_
    obtain ⟨r15, σ16, hc, hf⟩ := obd_some hf
    refine zr_callv (As := [.int a1_]) (rest := []) X J 8 ho_C_X10.1 ho_C_X10.2.1 ho_C_X10.2.2 yy_X10_finishTwo mw_methodLink_TinyCWalker_179_TinyCWalker_finishTwo_IV (d := 2) (zR_ok (by omega) (by decide)) hl.1 rfl (Nat.le_of_ble_eq_true rfl) (tX10_finishTwo  hc) dX10_finish_108 (fun H locs J => ?_)
    refine lv_goto hx hb dX10_finish_111 rfl ?_
    exact zr_vret X J hf dX10_finish_210
  have hf := itn h3_ hf
  by_cases h4_ : r2 = (8 : Int32)
  · have hf := itp h4_ hf
    rw [h4_]
    refine lv_tableIn hx hb dX10_finish_8 (by decide) (by decide) (tgt := 210) (by rfl) (by decide) ?_
    exact zr_vret X J hf dX10_finish_210
  have hf := itn h4_ hf
  by_cases h5_ : r2 = (9 : Int32)
  · have hf := itp h5_ hf
    rw [h5_]
    refine lv_tableIn hx hb dX10_finish_8 (by decide) (by decide) (tgt := 210) (by rfl) (by decide) ?_
    exact zr_vret X J hf dX10_finish_210
  have hf := itn h5_ hf
  by_cases h6_ : r2 = (10 : Int32)
  · have hf := itp h6_ hf
    rw [h6_]
    refine lv_tableIn hx hb dX10_finish_8 (by decide) (by decide) (tgt := 194) (by rfl) (by decide) ?_
    refine lv_aload_n hx hb dX10_finish_194 rfl (lv_at hl 0 rfl) ?_
    refine lv_iload_n hx hb dX10_finish_195 rfl (lv_at hl 1 rfl) ?_
    obtain ⟨r17, σ18, hc, hf⟩ := obd_some hf
    refine zr_callv (As := [.int a1_]) (rest := []) X J 8 ho_C_X10.1 ho_C_X10.2.1 ho_C_X10.2.2 yy_X10_finishChoice mw_methodLink_TinyCWalker_191_TinyCWalker_finishChoice_IV (d := 1) (zR_ok (by omega) (by decide)) hl.1 rfl (Nat.le_of_ble_eq_true rfl) (tX10_finishChoice  hc) dX10_finish_196 (fun H locs J => ?_)
    refine lv_goto hx hb dX10_finish_199 rfl ?_
    exact zr_vret X J hf dX10_finish_210
  have hf := itn h6_ hf
  by_cases h7_ : r2 = (11 : Int32)
  · have hf := itp h7_ hf
    rw [h7_]
    refine lv_tableIn hx hb dX10_finish_8 (by decide) (by decide) (tgt := 202) (by rfl) (by decide) ?_
    refine lv_aload_n hx hb dX10_finish_202 rfl (lv_at hl 0 rfl) ?_
    refine lv_iload_n hx hb dX10_finish_203 rfl (lv_at hl 1 rfl) ?_
    obtain ⟨r19, σ20, hc, hf⟩ := obd_some hf
    refine zr_callv (As := [.int a1_]) (rest := []) X J 8 ho_C_X10.1 ho_C_X10.2.1 ho_C_X10.2.2 yy_X10_finishLoop mw_methodLink_TinyCWalker_194_TinyCWalker_finishLoop_IV (d := 1) (zR_ok (by omega) (by decide)) hl.1 rfl (Nat.le_of_ble_eq_true rfl) (tX10_finishLoop  hc) dX10_finish_204 (fun H locs J => ?_)
    refine lv_goto hx hb dX10_finish_207 rfl ?_
    exact zr_vret X J hf dX10_finish_210
  have hf := itn h7_ hf
  by_cases h8_ : r2 = (12 : Int32)
  · have hf := itp h8_ hf
    rw [h8_]
    refine lv_tableIn hx hb dX10_finish_8 (by decide) (by decide) (tgt := 187) (by rfl) (by decide) ?_
    refine lv_aload_n hx hb dX10_finish_187 rfl (lv_at hl 0 rfl) ?_
    obtain ⟨r21, σ22, hc, hf⟩ := obd_some hf
    refine zr_callv (As := []) (rest := []) X J 8 ho_C_X10.1 ho_C_X10.2.1 ho_C_X10.2.2 yy_X10_finishReturn mw_methodLink_TinyCWalker_188_TinyCWalker_finishReturn_V (d := 1) (zR_ok (by omega) (by decide)) hl.1 rfl (Nat.le_of_ble_eq_true rfl) (tX10_finishReturn  hc) dX10_finish_188 (fun H locs J => ?_)
    refine lv_goto hx hb dX10_finish_191 rfl ?_
    exact zr_vret X J hf dX10_finish_210
  have hf := itn h8_ hf
  by_cases h9_ : r2 = (13 : Int32)
  · have hf := itp h9_ hf
    rw [h9_]
    refine lv_tableIn hx hb dX10_finish_8 (by decide) (by decide) (tgt := 160) (by rfl) (by decide) ?_
    refine lv_aload_n hx hb dX10_finish_160 rfl (lv_at hl 0 rfl) ?_
    refine lv_aload_n hx hb dX10_finish_161 rfl (lv_at hl 0 rfl) ?_
    refine gf_X10_15 X J dX10_finish_162 ?_
    refine lv_aload_n hx hb dX10_finish_165 rfl (lv_at hl 0 rfl) ?_
    obtain ⟨r23, σ24, hc, hf⟩ := obd_some hf
    refine zr_calli (As := []) (rest := [.ref (ad 6), .ref (ad 8)]) X J 8 ho_C_X10.1 ho_C_X10.2.1 ho_C_X10.2.2 yy_X10_popValue mw_methodLink_TinyCWalker_88_TinyCWalker_popValue_I (d := 0) (zR_ok (by omega) (by decide)) hl.1 rfl (Nat.le_of_ble_eq_true rfl) (tX10_popValue  hc) dX10_finish_166 (fun H locs J => ?_)
    obtain ⟨r25, σ26, hc, hf⟩ := obd_some hf
    refine zr_callNi (As := [.int r23]) (rest := [.ref (ad 8)]) X J 6 ho_C_X8.1 ho_C_X8.2.1 ho_C_X8.2.2 yy_X8_putOutput mw_methodLinkNest_TinyCWalker_92_TinyCTape_putOutput_IZ_TinyC (d := 0) (zR_ok (by omega) (by decide)) hl.1 rfl (Nat.le_of_ble_eq_true rfl) (tX8_putOutput  hc) dX10_finish_169 (fun H locs J => ?_)
    refine lv_if_eq hx hb dX10_finish_172 rfl (fun h => ?_) (fun h => ?_)
    · have hf := itp h hf
      refine lv_bipush (v := (6 : Int32)) hx hb dX10_finish_179 (by decide) ?_
      exact bX10_finish_181 X   J (lv_sub hl [] rfl) hf
    · have hf := itn h hf
      refine lv_iconst (v := (0 : Int32)) hx hb dX10_finish_175 (by decide) ?_
      refine lv_goto hx hb dX10_finish_176 rfl ?_
      exact bX10_finish_181 X   J (lv_sub hl [] rfl) hf
  have hf := itn h9_ hf
  by_cases h10_ : r2 = (14 : Int32)
  · have hf := itp h10_ hf
    rw [h10_]
    refine lv_tableIn hx hb dX10_finish_8 (by decide) (by decide) (tgt := 114) (by rfl) (by decide) ?_
    refine lv_aload_n hx hb dX10_finish_114 rfl (lv_at hl 0 rfl) ?_
    refine lv_aload_n hx hb dX10_finish_115 rfl (lv_at hl 0 rfl) ?_
    obtain ⟨q28, hq28, er, hf⟩ := rbd_some hf
    refine gf_X10_44 X J er dX10_finish_116 ?_
    refine lv_iload_n hx hb dX10_finish_119 rfl (lv_at hl 1 rfl) ?_
    obtain ⟨r29, σ30, hc, hf⟩ := obd_some hf
    refine zr_callNi (As := [.int a1_]) (rest := [.ref (ad 8)]) X J q28 (ho_C_X9 hq28).1 (ho_C_X9 hq28).2.1 (ho_C_X9 hq28).2.2 yy_X9_aOf mw_methodLinkNest_TinyCWalker_126_TinyCTree_aOf_II_TinyC (d := 0) (zR_ok (by omega) (by decide)) hl.1 rfl (Nat.le_of_ble_eq_true rfl) (tX9_aOf hq28 hc) dX10_finish_120 (fun H locs J => ?_)
    refine lv_aload_n hx hb dX10_finish_123 rfl (lv_at hl 0 rfl) ?_
    obtain ⟨r31, σ32, hc, hf⟩ := obd_some hf
    refine zr_calli (As := []) (rest := [.int r29, .ref (ad 8)]) X J 8 ho_C_X10.1 ho_C_X10.2.1 ho_C_X10.2.2 yy_X10_popValue mw_methodLink_TinyCWalker_88_TinyCWalker_popValue_I (d := 0) (zR_ok (by omega) (by decide)) hl.1 rfl (Nat.le_of_ble_eq_true rfl) (tX10_popValue  hc) dX10_finish_124 (fun H locs J => ?_)
    obtain ⟨r33, σ34, hc, hf⟩ := obd_some hf
    refine zr_callv (As := [.int r29, .int r31]) (rest := []) X J 8 ho_C_X10.1 ho_C_X10.2.1 ho_C_X10.2.2 yy_X10_setGlobal mw_methodLink_TinyCWalker_182_TinyCWalker_setGlobal_IIV (d := 0) (zR_ok (by omega) (by decide)) hl.1 rfl (Nat.le_of_ble_eq_true rfl) (tX10_setGlobal  hc) dX10_finish_127 (fun H locs J => ?_)
    refine lv_goto hx hb dX10_finish_130 rfl ?_
    exact zr_vret X J hf dX10_finish_210
  have hf := itn h10_ hf
  by_cases h11_ : r2 = (15 : Int32)
  · have hf := itp h11_ hf
    rw [h11_]
    refine lv_tableIn hx hb dX10_finish_8 (by decide) (by decide) (tgt := 133) (by rfl) (by decide) ?_
    refine lv_aload_n hx hb dX10_finish_133 rfl (lv_at hl 0 rfl) ?_
    refine lv_aload_n hx hb dX10_finish_134 rfl (lv_at hl 0 rfl) ?_
    obtain ⟨q35, hq35, er, hf⟩ := rbd_some hf
    refine gf_X10_44 X J er dX10_finish_135 ?_
    refine lv_iload_n hx hb dX10_finish_138 rfl (lv_at hl 1 rfl) ?_
    obtain ⟨r36, σ37, hc, hf⟩ := obd_some hf
    refine zr_callNi (As := [.int a1_]) (rest := [.ref (ad 8)]) X J q35 (ho_C_X9 hq35).1 (ho_C_X9 hq35).2.1 (ho_C_X9 hq35).2.2 yy_X9_aOf mw_methodLinkNest_TinyCWalker_126_TinyCTree_aOf_II_TinyC (d := 0) (zR_ok (by omega) (by decide)) hl.1 rfl (Nat.le_of_ble_eq_true rfl) (tX9_aOf hq35 hc) dX10_finish_139 (fun H locs J => ?_)
    refine lv_aload_n hx hb dX10_finish_142 rfl (lv_at hl 0 rfl) ?_
    obtain ⟨r38, σ39, hc, hf⟩ := obd_some hf
    refine zr_calli (As := []) (rest := [.int r36, .ref (ad 8)]) X J 8 ho_C_X10.1 ho_C_X10.2.1 ho_C_X10.2.2 yy_X10_popValue mw_methodLink_TinyCWalker_88_TinyCWalker_popValue_I (d := 0) (zR_ok (by omega) (by decide)) hl.1 rfl (Nat.le_of_ble_eq_true rfl) (tX10_popValue  hc) dX10_finish_143 (fun H locs J => ?_)
    obtain ⟨r40, σ41, hc, hf⟩ := obd_some hf
    refine zr_callv (As := [.int r36, .int r38]) (rest := []) X J 8 ho_C_X10.1 ho_C_X10.2.1 ho_C_X10.2.2 yy_X10_setLocal mw_methodLink_TinyCWalker_169_TinyCWalker_setLocal_IIV (d := 1) (zR_ok (by omega) (by decide)) hl.1 rfl (Nat.le_of_ble_eq_true rfl) (tX10_setLocal  hc) dX10_finish_146 (fun H locs J => ?_)
    refine lv_goto hx hb dX10_finish_149 rfl ?_
    exact zr_vret X J hf dX10_finish_210
  have hf := itn h11_ hf
  by_cases h12_ : r2 = (16 : Int32)
  · have hf := itp h12_ hf
    rw [h12_]
    refine lv_tableIn hx hb dX10_finish_8 (by decide) (by decide) (tgt := 152) (by rfl) (by decide) ?_
    refine lv_aload_n hx hb dX10_finish_152 rfl (lv_at hl 0 rfl) ?_
    refine lv_iload_n hx hb dX10_finish_153 rfl (lv_at hl 1 rfl) ?_
    obtain ⟨r42, σ43, hc, hf⟩ := obd_some hf
    refine zr_callv (As := [.int a1_]) (rest := []) X J 8 ho_C_X10.1 ho_C_X10.2.1 ho_C_X10.2.2 yy_X10_finishSetItem mw_methodLink_TinyCWalker_185_TinyCWalker_finishSetItem_IV (d := 1) (zR_ok (by omega) (by decide)) hl.1 rfl (Nat.le_of_ble_eq_true rfl) (tX10_finishSetItem  hc) dX10_finish_154 (fun H locs J => ?_)
    refine lv_goto hx hb dX10_finish_157 rfl ?_
    exact zr_vret X J hf dX10_finish_210
  have hf := itn h12_ hf
  refine lv_tableOut hx hb dX10_finish_8 (tgt := 210) (by have := lv_neT h0_ (a := 4) (by decide); have := lv_neT h1_ (a := 5) (by decide); have := lv_neT h2_ (a := 6) (by decide); have := lv_neT h3_ (a := 7) (by decide); have := lv_neT h4_ (a := 8) (by decide); have := lv_neT h5_ (a := 9) (by decide); have := lv_neT h6_ (a := 10) (by decide); have := lv_neT h7_ (a := 11) (by decide); have := lv_neT h8_ (a := 12) (by decide); have := lv_neT h9_ (a := 13) (by decide); have := lv_neT h10_ (a := 14) (by decide); have := lv_neT h11_ (a := 15) (by decide); have := lv_neT h12_ (a := 16) (by decide); omega) (by decide) ?_
  exact zr_vret X J hf dX10_finish_210
set_option maxHeartbeats 4000000 in
theorem tX10_openFrame {a1_ : Int32}  {σ u : zSt} {r : Unit} (hf : fX10_openFrame ln N M a1_ σ = some (r, u)) : zMv l yX10_openFrame cX10_openFrame 2 none (0) D cy shC ad ts ln [.ref (ad 8), .int a1_] σ u := by
  refine zM_of (by decide) (Nat.le_of_ble_eq_true rfl) (fun p e s m args below meth c ls ha X J hl => ?_)
  have hx := X.1
  have hb := X.2.1
  have hl : lv_has ls 2 [(0, .ref (ad 8)), (1, .int a1_)] := hl
  generalize s.heap = H at J ⊢
  generalize ([] : List Loc) = locs at J ⊢
  show W p l e (zRm (0)) s m args below meth c H locs 0 0 (zQv D cy shC ad ts ln below args s (r, u)) (F0 m 0 ls [])
  unfold fX10_openFrame at hf
  refine lv_aload_n hx hb dX10_openFrame_0 rfl (lv_at hl 0 rfl) ?_
  refine gf_X10_62 X J dX10_openFrame_1 ?_
  refine lv_if_lt hx hb dX10_openFrame_4 rfl (fun h => ?_) (fun h => ?_)
  · have hf := itp h hf
    exact zr_vret X J hf dX10_openFrame_52
  · have hf := itn h hf
    refine lv_aload_n hx hb dX10_openFrame_7 rfl (lv_at hl 0 rfl) ?_
    refine gf_X10_62 X J dX10_openFrame_8 ?_
    refine lv_aload_n hx hb dX10_openFrame_11 rfl (lv_at hl 0 rfl) ?_
    refine gf_X10_35 X J dX10_openFrame_12 ?_
    refine an_X10_X10f7 X J dX10_openFrame_15 ?_
    refine lv_icmp_ge hx hb dX10_openFrame_16 rfl (fun h => ?_) (fun h => ?_)
    · have hf := itp h hf
      exact zr_vret X J hf dX10_openFrame_52
    · have hf := itn h hf
      refine lv_aload_n hx hb dX10_openFrame_19 rfl (lv_at hl 0 rfl) ?_
      refine gf_X10_35 X J dX10_openFrame_20 ?_
      refine lv_aload_n hx hb dX10_openFrame_23 rfl (lv_at hl 0 rfl) ?_
      refine gf_X10_62 X J dX10_openFrame_24 ?_
      refine lv_aload_n hx hb dX10_openFrame_27 rfl (lv_at hl 0 rfl) ?_
      refine gf_X10_65 X J dX10_openFrame_28 ?_
      obtain ⟨hin, hf⟩ := itx hf
      refine as_X10_X10f7 X J hin dX10_openFrame_31 (fun σ1 H locs eq J => ?_)
      have hf := bnd_eq eq hf
      clear eq
      refine lv_aload_n hx hb dX10_openFrame_32 rfl (lv_at hl 0 rfl) ?_
      refine lv_dup hx hb dX10_openFrame_33 rfl ?_
      refine gf_X10_62 X J dX10_openFrame_34 ?_
      refine lv_iconst (v := (1 : Int32)) hx hb dX10_openFrame_37 (by decide) ?_
      refine lv_iadd hx hb dX10_openFrame_38 ?_
      refine pf_X10_62 X J dX10_openFrame_39 (fun σ2 H locs eq J => ?_)
      have hf := bnd_eq eq hf
      clear eq
      refine lv_aload_n hx hb dX10_openFrame_42 rfl (lv_at hl 0 rfl) ?_
      refine lv_dup hx hb dX10_openFrame_43 rfl ?_
      refine gf_X10_65 X J dX10_openFrame_44 ?_
      refine lv_iload_n hx hb dX10_openFrame_47 rfl (lv_at hl 1 rfl) ?_
      refine lv_iadd hx hb dX10_openFrame_48 ?_
      refine pf_X10_65 X J dX10_openFrame_49 (fun σ3 H locs eq J => ?_)
      have hf := bnd_eq eq hf
      clear eq
      exact zr_vret X J hf dX10_openFrame_52
set_option maxHeartbeats 4000000 in
theorem bX10_enter_54 {o : Unit × zSt} (X : zX p s m args meth c D cy shC ad ts cX10_enter 5 none RX10)    {σ : zSt} {H : Heap} {locs : List Loc} {ls : Array Slot} (J : zJ D cy shC ad ln s σ H locs) (hl : lv_has ls 5 [(0, .ref (ad 8))]) (hf : fX10_enter_b54 ln N M   σ = some o) : W p l e (zRm (1)) s m args below meth c H locs 0 0 (zQv D cy shC ad ts ln below args s o) (F0 m 54 ls []) := by
  have hx := X.1
  have hb := X.2.1
  unfold fX10_enter_b54 at hf
  refine lv_aload_n hx hb dX10_enter_54 rfl (lv_at hl 0 rfl) ?_
  refine lv_iconst (v := (4 : Int32)) hx hb dX10_enter_55 (by decide) ?_
  refine pf_X10_68 X J dX10_enter_56 (fun σ9 H locs eq J => ?_)
  have hf := bnd_eq eq hf
  clear eq
  exact zr_vret X J hf dX10_enter_59
set_option maxHeartbeats 4000000 in
theorem bX10_enter_92 {o : Unit × zSt} (X : zX p s m args meth c D cy shC ad ts cX10_enter 5 none RX10)  : ∀ (n : Nat) (x1_ : Int32) (x3_ : Int32) (x4_ : Int32) (σ : zSt) (H : Heap) (locs : List Loc) (ls : Array Slot), zJ D cy shC ad ln s σ H locs → lv_has ls 5 [(0, .ref (ad 8)), (1, .int x1_), (3, .int x3_), (4, .int x4_)] → fX10_enter_b92 ln N M  n x1_ x3_ x4_ σ = some o → W p l e (zRm (1)) s m args below meth c H locs 0 0 (zQv D cy shC ad ts ln below args s o) (F0 m 92 ls []) := by
  have hx := X.1
  have hb := X.2.1
  intro n
  induction n with
  | zero =>
    intro x1_ x3_ x4_ σ H locs ls J hl hf
    rw [fX10_enter_b92] at hf
    cases hf
  | succ n ih =>
    intro x1_ x3_ x4_ σ H locs ls J hl hf
    rw [fX10_enter_b92] at hf
    refine lv_iload hx hb dX10_enter_92 (lv_at hl 3 rfl) ?_
    refine lv_if_lt hx hb dX10_enter_94 rfl (fun h => ?_) (fun h => ?_)
    · have hf := itp h hf
      refine lv_aload_n hx hb dX10_enter_118 rfl (lv_at hl 0 rfl) ?_
      refine lv_iload_n hx hb dX10_enter_119 rfl (lv_at hl 2 rfl) ?_
      obtain ⟨r12, σ13, hc, hf⟩ := obd_some hf
      refine zr_callv (As := [.int x3_]) (rest := []) X J 8 ho_C_X10.1 ho_C_X10.2.1 ho_C_X10.2.2 yy_X10_openFrame mw_methodLink_TinyCWalker_217_TinyCWalker_openFrame_IV (d := 0) (zR_ok (by omega) (by decide)) hl.1 rfl (Nat.le_of_ble_eq_true rfl) (tX10_openFrame  hc) dX10_enter_120 (fun H locs J => ?_)
      refine lv_aload_n hx hb dX10_enter_123 rfl (lv_at hl 0 rfl) ?_
      refine lv_bipush (v := (6 : Int32)) hx hb dX10_enter_124 (by decide) ?_
      refine lv_iload_n hx hb dX10_enter_126 rfl (lv_at hl 1 rfl) ?_
      obtain ⟨r14, σ15, hc, hf⟩ := obd_some hf
      refine zr_callv (As := [.int (6 : Int32), .int x1_]) (rest := []) X J 8 ho_C_X10.1 ho_C_X10.2.1 ho_C_X10.2.2 yy_X10_pushItem mw_methodLink_TinyCWalker_78_TinyCWalker_pushItem_IIV (d := 0) (zR_ok (by omega) (by decide)) hl.1 rfl (Nat.le_of_ble_eq_true rfl) (tX10_pushItem  hc) dX10_enter_127 (fun H locs J => ?_)
      refine lv_aload_n hx hb dX10_enter_130 rfl (lv_at hl 0 rfl) ?_
      refine lv_iconst (v := (4 : Int32)) hx hb dX10_enter_131 (by decide) ?_
      refine lv_iload_n hx hb dX10_enter_132 rfl (lv_at hl 1 rfl) ?_
      obtain ⟨r16, σ17, hc, hf⟩ := obd_some hf
      refine zr_callv (As := [.int (4 : Int32), .int x1_]) (rest := []) X J 8 ho_C_X10.1 ho_C_X10.2.1 ho_C_X10.2.2 yy_X10_pushItem mw_methodLink_TinyCWalker_78_TinyCWalker_pushItem_IIV (d := 0) (zR_ok (by omega) (by decide)) hl.1 rfl (Nat.le_of_ble_eq_true rfl) (tX10_pushItem  hc) dX10_enter_133 (fun H locs J => ?_)
      exact zr_vret X J hf dX10_enter_136
    · have hf := itn h hf
      refine lv_aload_n hx hb dX10_enter_97 rfl (lv_at hl 0 rfl) ?_
      refine lv_aload_n hx hb dX10_enter_98 rfl (lv_at hl 0 rfl) ?_
      refine gf_X10_65 X J dX10_enter_99 ?_
      refine lv_iload hx hb dX10_enter_102 (lv_at hl 3 rfl) ?_
      refine lv_iadd hx hb dX10_enter_104 ?_
      refine lv_aload_n hx hb dX10_enter_105 rfl (lv_at hl 0 rfl) ?_
      obtain ⟨r18, σ19, hc, hf⟩ := obd_some hf
      refine zr_calli (As := []) (rest := [.int ((zI σ 8 13) + x4_), .ref (ad 8)]) X J 8 ho_C_X10.1 ho_C_X10.2.1 ho_C_X10.2.2 yy_X10_popValue mw_methodLink_TinyCWalker_88_TinyCWalker_popValue_I (d := 0) (zR_ok (by omega) (by decide)) hl.1 rfl (Nat.le_of_ble_eq_true rfl) (tX10_popValue  hc) dX10_enter_106 (fun H locs J => ?_)
      obtain ⟨r20, σ21, hc, hf⟩ := obd_some hf
      refine zr_callv (As := [.int ((zI σ 8 13) + x4_), .int r18]) (rest := []) X J 8 ho_C_X10.1 ho_C_X10.2.1 ho_C_X10.2.2 yy_X10_setFrameCell mw_methodLink_TinyCWalker_214_TinyCWalker_setFrameCell_IIV (d := 0) (zR_ok (by omega) (by decide)) hl.1 rfl (Nat.le_of_ble_eq_true rfl) (tX10_setFrameCell  hc) dX10_enter_109 (fun H locs J => ?_)
      obtain ⟨x22, eq⟩ : ∃ z, z = x4_ + (-1 : Int32) := ⟨_, rfl⟩
      have hf := bnd_eq eq hf
      refine lv_iinc hx hb dX10_enter_112 hl (k := 3) rfl (v := x22) (by rw [eq]; rfl) (by decide) rfl (fun ls hl => ?_)
      clear eq
      have hl : lv_has ls 5 [(4, .int x22), (0, .ref (ad 8)), (1, .int x1_), (3, .int x3_)] := hl
      refine lv_goto hx hb dX10_enter_115 rfl ?_
      exact ih _ _ _ _ _ _ _ J (lv_sub hl [1, 2, 3, 0] rfl) hf
set_option maxHeartbeats 4000000 in
theorem bX10_enter_63 {o : Unit × zSt} (X : zX p s m args meth c D cy shC ad ts cX10_enter 5 none RX10)  : ∀ (n : Nat) (x1_ : Int32) (x2_ : Int32) (x3_ : Int32) (x4_ : Int32) (σ : zSt) (H : Heap) (locs : List Loc) (ls : Array Slot), zJ D cy shC ad ln s σ H locs → lv_has ls 5 [(0, .ref (ad 8)), (1, .int x1_), (2, .int x2_), (3, .int x3_), (4, .int x4_)] → fX10_enter_b63 ln N M  n x1_ x2_ x3_ x4_ σ = some o → W p l e (zRm (1)) s m args below meth c H locs 0 0 (zQv D cy shC ad ts ln below args s o) (F0 m 63 ls []) := by
  have hx := X.1
  have hb := X.2.1
  intro n
  induction n with
  | zero =>
    intro x1_ x2_ x3_ x4_ σ H locs ls J hl hf
    rw [fX10_enter_b63] at hf
    cases hf
  | succ n ih =>
    intro x1_ x2_ x3_ x4_ σ H locs ls J hl hf
    rw [fX10_enter_b63] at hf
    refine lv_iload hx hb dX10_enter_63 (lv_at hl 4 rfl) ?_
    refine lv_iload_n hx hb dX10_enter_65 rfl (lv_at hl 3 rfl) ?_
    refine lv_icmp_ge hx hb dX10_enter_66 rfl (fun h => ?_) (fun h => ?_)
    · have hf := itp h hf
      refine lv_iload_n hx hb dX10_enter_87 rfl (lv_at hl 2 rfl) ?_
      refine lv_iconst (v := (1 : Int32)) hx hb dX10_enter_88 (by decide) ?_
      refine lv_isub hx hb dX10_enter_89 ?_
      refine lv_topi (fun x11 eq => ?_)
      have hf := bnd_eq eq hf
      clear eq
      refine lv_istore hx hb dX10_enter_90 hl (by decide) rfl (fun ls hl => ?_)
      have hl : lv_has ls 5 [(4, .int x11), (0, .ref (ad 8)), (1, .int x1_), (2, .int x2_), (3, .int x3_)] := hl
      exact bX10_enter_92 X  N _ _ _ _ _ _ _ J (lv_sub hl [1, 2, 4, 0] rfl) hf
    · have hf := itn h hf
      refine lv_aload_n hx hb dX10_enter_69 rfl (lv_at hl 0 rfl) ?_
      refine lv_aload_n hx hb dX10_enter_70 rfl (lv_at hl 0 rfl) ?_
      refine gf_X10_65 X J dX10_enter_71 ?_
      refine lv_iload hx hb dX10_enter_74 (lv_at hl 4 rfl) ?_
      refine lv_iadd hx hb dX10_enter_76 ?_
      refine lv_iconst (v := (0 : Int32)) hx hb dX10_enter_77 (by decide) ?_
      obtain ⟨r23, σ24, hc, hf⟩ := obd_some hf
      refine zr_callv (As := [.int ((zI σ 8 13) + x4_), .int (0 : Int32)]) (rest := []) X J 8 ho_C_X10.1 ho_C_X10.2.1 ho_C_X10.2.2 yy_X10_setFrameCell mw_methodLink_TinyCWalker_214_TinyCWalker_setFrameCell_IIV (d := 0) (zR_ok (by omega) (by decide)) hl.1 rfl (Nat.le_of_ble_eq_true rfl) (tX10_setFrameCell  hc) dX10_enter_78 (fun H locs J => ?_)
      obtain ⟨x25, eq⟩ : ∃ z, z = x4_ + (1 : Int32) := ⟨_, rfl⟩
      have hf := bnd_eq eq hf
      refine lv_iinc hx hb dX10_enter_81 hl (k := 4) rfl (v := x25) (by rw [eq]; rfl) (by decide) rfl (fun ls hl => ?_)
      clear eq
      have hl : lv_has ls 5 [(4, .int x25), (0, .ref (ad 8)), (1, .int x1_), (2, .int x2_), (3, .int x3_)] := hl
      refine lv_goto hx hb dX10_enter_84 rfl ?_
      exact ih _ _ _ _ _ _ _ _ J (lv_sub hl [1, 2, 3, 4, 0] rfl) hf
set_option maxHeartbeats 4000000 in
theorem tX10_enter {a1_ : Int32}  {σ u : zSt} {r : Unit} (hf : fX10_enter ln N M a1_ σ = some (r, u)) : zMv l yX10_enter cX10_enter 5 none (1) D cy shC ad ts ln [.ref (ad 8), .int a1_] σ u := by
  refine zM_of (by decide) (Nat.le_of_ble_eq_true rfl) (fun p e s m args below meth c ls ha X J hl => ?_)
  have hx := X.1
  have hb := X.2.1
  have hl : lv_has ls 5 [(0, .ref (ad 8)), (1, .int a1_)] := hl
  generalize s.heap = H at J ⊢
  generalize ([] : List Loc) = locs at J ⊢
  show W p l e (zRm (1)) s m args below meth c H locs 0 0 (zQv D cy shC ad ts ln below args s (r, u)) (F0 m 0 ls [])
  unfold fX10_enter at hf
  refine lv_iconst (v := (0 : Int32)) hx hb dX10_enter_0 (by decide) ?_
  refine lv_aload_n hx hb dX10_enter_1 rfl (lv_at hl 0 rfl) ?_
  obtain ⟨q1, hq1, er, hf⟩ := rbd_some hf
  refine gf_X10_44 X J er dX10_enter_2 ?_
  refine lv_iload_n hx hb dX10_enter_5 rfl (lv_at hl 1 rfl) ?_
  obtain ⟨r2, σ3, hc, hf⟩ := obd_some hf
  refine zr_callNi (As := [.int a1_]) (rest := [.int (0 : Int32)]) X J q1 (ho_C_X9 hq1).1 (ho_C_X9 hq1).2.1 (ho_C_X9 hq1).2.2 yy_X9_aOf mw_methodLinkNest_TinyCWalker_126_TinyCTree_aOf_II_TinyC (d := 0) (zR_ok (by omega) (by decide)) hl.1 rfl (Nat.le_of_ble_eq_true rfl) (tX9_aOf hq1 hc) dX10_enter_6 (fun H locs J => ?_)
  refine va_mmax (rest := []) hx hb (X.2.2.1.trans hl.1.symm) X.2.2.2.1 (X.2.2.2.2.1 _ mw_methodLink_TinyCWalker_209_javalangMath_max_III) (X.2.2.2.2.1 _ mw_static_javalangMath_max_III) (X.2.2.2.2.1 _ mw_initialized_javalangMath) (X.2.2.2.2.1 _ mw_code_javalangMath_max_III) (zR_1a (by omega)) (zR_1b (by omega) (Nat.le_of_ble_eq_true rfl)) (Nat.zero_le _) (Nat.zero_le _) dX10_enter_9 ?_
  refine lv_topi (fun x4 eq => ?_)
  have hf := bnd_eq eq hf
  clear eq
  refine lv_istore_n hx hb dX10_enter_12 rfl hl (by decide) rfl (fun ls hl => ?_)
  have hl : lv_has ls 5 [(2, .int x4), (0, .ref (ad 8)), (1, .int a1_)] := hl
  refine lv_iload_n hx hb dX10_enter_13 rfl (lv_at hl 0 rfl) ?_
  refine lv_iconst (v := (0 : Int32)) hx hb dX10_enter_14 (by decide) ?_
  refine lv_aload_n hx hb dX10_enter_15 rfl (lv_at hl 1 rfl) ?_
  obtain ⟨q5, hq5, er, hf⟩ := rbd_some hf
  refine gf_X10_44 X J er dX10_enter_16 ?_
  refine lv_iload_n hx hb dX10_enter_19 rfl (lv_at hl 2 rfl) ?_
  obtain ⟨r6, σ7, hc, hf⟩ := obd_some hf
  refine zr_callNi (As := [.int a1_]) (rest := [.int (0 : Int32), .int x4]) X J q5 (ho_C_X9 hq5).1 (ho_C_X9 hq5).2.1 (ho_C_X9 hq5).2.2 yy_X9_cOf mw_methodLinkNest_TinyCWalker_160_TinyCTree_cOf_II_TinyC (d := 0) (zR_ok (by omega) (by decide)) hl.1 rfl (Nat.le_of_ble_eq_true rfl) (tX9_cOf hq5 hc) dX10_enter_20 (fun H locs J => ?_)
  refine va_mmax (rest := [.int x4]) hx hb (X.2.2.1.trans hl.1.symm) X.2.2.2.1 (X.2.2.2.2.1 _ mw_methodLink_TinyCWalker_209_javalangMath_max_III) (X.2.2.2.2.1 _ mw_static_javalangMath_max_III) (X.2.2.2.2.1 _ mw_initialized_javalangMath) (X.2.2.2.2.1 _ mw_code_javalangMath_max_III) (zR_1a (by omega)) (zR_1b (by omega) (Nat.le_of_ble_eq_true rfl)) (Nat.zero_le _) (Nat.zero_le _) dX10_enter_23 ?_
  refine lv_iadd hx hb dX10_enter_26 ?_
  refine lv_topi (fun x8 eq => ?_)
  have hf := bnd_eq eq hf
  clear eq
  refine lv_istore_n hx hb dX10_enter_27 rfl hl (by decide) rfl (fun ls hl => ?_)
  have hl : lv_has ls 5 [(3, .int x8), (2, .int x4), (0, .ref (ad 8)), (1, .int a1_)] := hl
  refine lv_iload_n hx hb dX10_enter_28 rfl (lv_at hl 0 rfl) ?_
  refine lv_aload_n hx hb dX10_enter_29 rfl (lv_at hl 2 rfl) ?_
  refine gf_X10_32 X J dX10_enter_30 ?_
  refine an_X10_X10f6 X J dX10_enter_33 ?_
  refine lv_aload_n hx hb dX10_enter_34 rfl (lv_at hl 2 rfl) ?_
  refine gf_X10_65 X J dX10_enter_35 ?_
  refine lv_isub hx hb dX10_enter_38 ?_
  refine lv_icmp_gt hx hb dX10_enter_39 rfl (fun h => ?_) (fun h => ?_)
  · have hf := itp h hf
    exact bX10_enter_54 X   J (lv_sub hl [2] rfl) hf
  · have hf := itn h hf
    refine lv_aload_n hx hb dX10_enter_42 rfl (lv_at hl 2 rfl) ?_
    refine gf_X10_62 X J dX10_enter_43 ?_
    refine lv_aload_n hx hb dX10_enter_46 rfl (lv_at hl 2 rfl) ?_
    refine gf_X10_35 X J dX10_enter_47 ?_
    refine an_X10_X10f7 X J dX10_enter_50 ?_
    refine lv_icmp_lt hx hb dX10_enter_51 rfl (fun h => ?_) (fun h => ?_)
    · have hf := itp h hf
      refine lv_iconst (v := (0 : Int32)) hx hb dX10_enter_60 (by decide) ?_
      refine lv_topi (fun x10 eq => ?_)
      have hf := bnd_eq eq hf
      clear eq
      refine lv_istore hx hb dX10_enter_61 hl (by decide) rfl (fun ls hl => ?_)
      have hl : lv_has ls 5 [(4, .int x10), (3, .int x8), (2, .int x4), (0, .ref (ad 8)), (1, .int a1_)] := hl
      exact bX10_enter_63 X  N _ _ _ _ _ _ _ _ J (lv_sub hl [3, 4, 2, 1, 0] rfl) hf
    · have hf := itn h hf
      exact bX10_enter_54 X   J (lv_sub hl [2] rfl) hf
set_option maxHeartbeats 4000000 in
theorem bX10_goAlong_31 {o : Unit × zSt} (X : zX p s m args meth c D cy shC ad ts cX10_goAlong 2 none RX10)  {x1_ : Int32}  {σ : zSt} {H : Heap} {locs : List Loc} {ls : Array Slot} (J : zJ D cy shC ad ln s σ H locs) (hl : lv_has ls 2 [(0, .ref (ad 8)), (1, .int x1_)]) (hf : fX10_goAlong_b31 ln N M  x1_ σ = some o) : W p l e (zRm (1)) s m args below meth c H locs 0 0 (zQv D cy shC ad ts ln below args s o) (F0 m 31 ls []) := by
  have hx := X.1
  have hb := X.2.1
  unfold fX10_goAlong_b31 at hf
  refine lv_aload_n hx hb dX10_goAlong_31 rfl (lv_at hl 0 rfl) ?_
  refine lv_iconst (v := (0 : Int32)) hx hb dX10_goAlong_32 (by decide) ?_
  refine lv_iload_n hx hb dX10_goAlong_33 rfl (lv_at hl 1 rfl) ?_
  obtain ⟨r7, σ8, hc, hf⟩ := obd_some hf
  refine zr_callv (As := [.int (0 : Int32), .int x1_]) (rest := []) X J 8 ho_C_X10.1 ho_C_X10.2.1 ho_C_X10.2.2 yy_X10_pushItem mw_methodLink_TinyCWalker_78_TinyCWalker_pushItem_IIV (d := 0) (zR_ok (by omega) (by decide)) hl.1 rfl (Nat.le_of_ble_eq_true rfl) (tX10_pushItem  hc) dX10_goAlong_34 (fun H locs J => ?_)
  exact zr_vret X J hf dX10_goAlong_37
set_option maxHeartbeats 4000000 in
theorem tX10_goAlong {a1_ : Int32}  {σ u : zSt} {r : Unit} (hf : fX10_goAlong ln N M a1_ σ = some (r, u)) : zMv l yX10_goAlong cX10_goAlong 2 none (1) D cy shC ad ts ln [.ref (ad 8), .int a1_] σ u := by
  refine zM_of (by decide) (Nat.le_of_ble_eq_true rfl) (fun p e s m args below meth c ls ha X J hl => ?_)
  have hx := X.1
  have hb := X.2.1
  have hl : lv_has ls 2 [(0, .ref (ad 8)), (1, .int a1_)] := hl
  generalize s.heap = H at J ⊢
  generalize ([] : List Loc) = locs at J ⊢
  show W p l e (zRm (1)) s m args below meth c H locs 0 0 (zQv D cy shC ad ts ln below args s (r, u)) (F0 m 0 ls [])
  unfold fX10_goAlong at hf
  refine lv_aload_n hx hb dX10_goAlong_0 rfl (lv_at hl 0 rfl) ?_
  obtain ⟨q1, hq1, er, hf⟩ := rbd_some hf
  refine gf_X10_44 X J er dX10_goAlong_1 ?_
  refine lv_aload_n hx hb dX10_goAlong_4 rfl (lv_at hl 0 rfl) ?_
  obtain ⟨q2, hq2, er, hf⟩ := rbd_some hf
  refine gf_X10_44 X J er dX10_goAlong_5 ?_
  refine lv_iload_n hx hb dX10_goAlong_8 rfl (lv_at hl 1 rfl) ?_
  obtain ⟨r3, σ4, hc, hf⟩ := obd_some hf
  refine zr_callNi (As := [.int a1_]) (rest := [.ref (ad q1)]) X J q2 (ho_C_X9 hq2).1 (ho_C_X9 hq2).2.1 (ho_C_X9 hq2).2.2 yy_X9_nextOf mw_methodLinkNest_TinyCWalker_166_TinyCTree_nextOf_II_TinyC (d := 0) (zR_ok (by omega) (by decide)) hl.1 rfl (Nat.le_of_ble_eq_true rfl) (tX9_nextOf hq2 hc) dX10_goAlong_9 (fun H locs J => ?_)
  obtain ⟨r5, σ6, hc, hf⟩ := obd_some hf
  refine zr_callNi (As := [.int r3]) (rest := []) X J q1 (ho_C_X9 hq1).1 (ho_C_X9 hq1).2.1 (ho_C_X9 hq1).2.2 yy_X9_has mw_methodLinkNest_TinyCWalker_163_TinyCTree_has_IZ_TinyC (d := 0) (zR_ok (by omega) (by decide)) hl.1 rfl (Nat.le_of_ble_eq_true rfl) (tX9_has hq1 hc) dX10_goAlong_12 (fun H locs J => ?_)
  refine lv_if_eq hx hb dX10_goAlong_15 rfl (fun h => ?_) (fun h => ?_)
  · have hf := itp h hf
    exact bX10_goAlong_31 X   J (lv_sub hl [0, 1] rfl) hf
  · have hf := itn h hf
    refine lv_aload_n hx hb dX10_goAlong_18 rfl (lv_at hl 0 rfl) ?_
    refine lv_iconst (v := (5 : Int32)) hx hb dX10_goAlong_19 (by decide) ?_
    refine lv_aload_n hx hb dX10_goAlong_20 rfl (lv_at hl 0 rfl) ?_
    obtain ⟨q9, hq9, er, hf⟩ := rbd_some hf
    refine gf_X10_44 X J er dX10_goAlong_21 ?_
    refine lv_iload_n hx hb dX10_goAlong_24 rfl (lv_at hl 1 rfl) ?_
    obtain ⟨r10, σ11, hc, hf⟩ := obd_some hf
    refine zr_callNi (As := [.int a1_]) (rest := [.int (5 : Int32), .ref (ad 8)]) X J q9 (ho_C_X9 hq9).1 (ho_C_X9 hq9).2.1 (ho_C_X9 hq9).2.2 yy_X9_nextOf mw_methodLinkNest_TinyCWalker_166_TinyCTree_nextOf_II_TinyC (d := 0) (zR_ok (by omega) (by decide)) hl.1 rfl (Nat.le_of_ble_eq_true rfl) (tX9_nextOf hq9 hc) dX10_goAlong_25 (fun H locs J => ?_)
    obtain ⟨r12, σ13, hc, hf⟩ := obd_some hf
    refine zr_callv (As := [.int (5 : Int32), .int r10]) (rest := []) X J 8 ho_C_X10.1 ho_C_X10.2.1 ho_C_X10.2.2 yy_X10_pushItem mw_methodLink_TinyCWalker_78_TinyCWalker_pushItem_IIV (d := 0) (zR_ok (by omega) (by decide)) hl.1 rfl (Nat.le_of_ble_eq_true rfl) (tX10_pushItem  hc) dX10_goAlong_28 (fun H locs J => ?_)
    exact bX10_goAlong_31 X   J (lv_sub hl [0, 1] rfl) hf
set_option maxHeartbeats 4000000 in
theorem bX10_takeItem_137 {o : Unit × zSt} (X : zX p s m args meth c D cy shC ad ts cX10_takeItem 2 none RX10)  {s0_ : Int32}  {σ : zSt} {H : Heap} {locs : List Loc} {ls : Array Slot} (J : zJ D cy shC ad ln s σ H locs) (hl : lv_has ls 2 []) (hf : fX10_takeItem_b137 ln N M  s0_ σ = some o) : W p l e (zRm (4)) s m args below meth c H locs 0 0 (zQv D cy shC ad ts ln below args s o) (F0 m 137 ls [.int s0_, .ref (ad 8)]) := by
  have hx := X.1
  have hb := X.2.1
  unfold fX10_takeItem_b137 at hf
  obtain ⟨r10, σ11, hc, hf⟩ := obd_some hf
  refine zr_callv (As := [.int s0_]) (rest := []) X J 8 ho_C_X10.1 ho_C_X10.2.1 ho_C_X10.2.2 yy_X10_pushValue mw_methodLink_TinyCWalker_105_TinyCWalker_pushValue_IV (d := 0) (zR_ok (by omega) (by decide)) hl.1 rfl (Nat.le_of_ble_eq_true rfl) (tX10_pushValue  hc) dX10_takeItem_137 (fun H locs J => ?_)
  refine lv_goto hx hb dX10_takeItem_140 rfl ?_
  exact zr_vret X J hf dX10_takeItem_187
set_option maxHeartbeats 4000000 in
theorem tX10_takeItem   {σ u : zSt} {r : Unit} (hf : fX10_takeItem ln N M  σ = some (r, u)) : zMv l yX10_takeItem cX10_takeItem 2 none (4) D cy shC ad ts ln [.ref (ad 8)] σ u := by
  refine zM_of (by decide) (Nat.le_of_ble_eq_true rfl) (fun p e s m args below meth c ls ha X J hl => ?_)
  have hx := X.1
  have hb := X.2.1
  have hl : lv_has ls 2 [(0, .ref (ad 8))] := hl
  generalize s.heap = H at J ⊢
  generalize ([] : List Loc) = locs at J ⊢
  show W p l e (zRm (4)) s m args below meth c H locs 0 0 (zQv D cy shC ad ts ln below args s (r, u)) (F0 m 0 ls [])
  unfold fX10_takeItem at hf
  refine lv_aload_n hx hb dX10_takeItem_0 rfl (lv_at hl 0 rfl) ?_
  refine gf_X10_59 X J dX10_takeItem_1 ?_
  refine lv_if_le hx hb dX10_takeItem_4 rfl (fun h => ?_) (fun h => ?_)
  · have hf := itp h hf
    exact zr_vret X J hf dX10_takeItem_31
  · have hf := itn h hf
    refine lv_aload_n hx hb dX10_takeItem_7 rfl (lv_at hl 0 rfl) ?_
    refine gf_X10_59 X J dX10_takeItem_8 ?_
    refine lv_aload_n hx hb dX10_takeItem_11 rfl (lv_at hl 0 rfl) ?_
    refine gf_X10_23 X J dX10_takeItem_12 ?_
    refine an_X10_X10f3 X J dX10_takeItem_15 ?_
    refine lv_icmp_gt hx hb dX10_takeItem_16 rfl (fun h => ?_) (fun h => ?_)
    · have hf := itp h hf
      exact zr_vret X J hf dX10_takeItem_31
    · have hf := itn h hf
      refine lv_aload_n hx hb dX10_takeItem_19 rfl (lv_at hl 0 rfl) ?_
      refine gf_X10_59 X J dX10_takeItem_20 ?_
      refine lv_aload_n hx hb dX10_takeItem_23 rfl (lv_at hl 0 rfl) ?_
      refine gf_X10_26 X J dX10_takeItem_24 ?_
      refine an_X10_X10f4 X J dX10_takeItem_27 ?_
      refine lv_icmp_le hx hb dX10_takeItem_28 rfl (fun h => ?_) (fun h => ?_)
      · have hf := itp h hf
        refine lv_aload_n hx hb dX10_takeItem_32 rfl (lv_at hl 0 rfl) ?_
        refine lv_dup hx hb dX10_takeItem_33 rfl ?_
        refine gf_X10_59 X J dX10_takeItem_34 ?_
        refine lv_iconst (v := (1 : Int32)) hx hb dX10_takeItem_37 (by decide) ?_
        refine lv_isub hx hb dX10_takeItem_38 ?_
        refine pf_X10_59 X J dX10_takeItem_39 (fun σ1 H locs eq J => ?_)
        have hf := bnd_eq eq hf
        clear eq
        refine lv_aload_n hx hb dX10_takeItem_42 rfl (lv_at hl 0 rfl) ?_
        refine gf_X10_26 X J dX10_takeItem_43 ?_
        refine lv_aload_n hx hb dX10_takeItem_46 rfl (lv_at hl 0 rfl) ?_
        refine gf_X10_59 X J dX10_takeItem_47 ?_
        obtain ⟨hin, hf⟩ := itx hf
        refine al_X10_X10f4 X J hin dX10_takeItem_50 ?_
        refine lv_topi (fun x2 eq => ?_)
        have hf := bnd_eq eq hf
        clear eq
        refine lv_istore_n hx hb dX10_takeItem_51 rfl hl (by decide) rfl (fun ls hl => ?_)
        have hl : lv_has ls 2 [(1, .int x2), (0, .ref (ad 8))] := hl
        refine lv_aload_n hx hb dX10_takeItem_52 rfl (lv_at hl 1 rfl) ?_
        refine gf_X10_23 X J dX10_takeItem_53 ?_
        refine lv_aload_n hx hb dX10_takeItem_56 rfl (lv_at hl 1 rfl) ?_
        refine gf_X10_59 X J dX10_takeItem_57 ?_
        obtain ⟨hin, hf⟩ := itx hf
        refine al_X10_X10f3 X J hin dX10_takeItem_60 ?_
        refine lv_topi (fun x3 eq => ?_)
        have hf := bnd_eq eq hf
        clear eq
        by_cases h0_ : x3 = (0 : Int32)
        · have hf := itp h0_ hf
          rw [h0_]
          refine lv_tableIn hx hb dX10_takeItem_61 (by decide) (by decide) (tgt := 108) (by rfl) (by decide) ?_
          refine lv_aload_n hx hb dX10_takeItem_108 rfl (lv_at hl 1 rfl) ?_
          refine lv_iload_n hx hb dX10_takeItem_109 rfl (lv_at hl 0 rfl) ?_
          obtain ⟨r4, σ5, hc, hf⟩ := obd_some hf
          refine zr_callv (As := [.int x2]) (rest := []) X J 8 ho_C_X10.1 ho_C_X10.2.1 ho_C_X10.2.2 yy_X10_takeApart mw_methodLink_TinyCWalker_98_TinyCWalker_takeApart_IV (d := 3) (zR_ok (by omega) (by decide)) hl.1 rfl (Nat.le_of_ble_eq_true rfl) (tX10_takeApart  hc) dX10_takeItem_110 (fun H locs J => ?_)
          refine lv_goto hx hb dX10_takeItem_113 rfl ?_
          exact zr_vret X J hf dX10_takeItem_187
        have hf := itn h0_ hf
        by_cases h1_ : x3 = (1 : Int32)
        · have hf := itp h1_ hf
          rw [h1_]
          refine lv_tableIn hx hb dX10_takeItem_61 (by decide) (by decide) (tgt := 116) (by rfl) (by decide) ?_
          refine lv_aload_n hx hb dX10_takeItem_116 rfl (lv_at hl 1 rfl) ?_
          refine lv_iload_n hx hb dX10_takeItem_117 rfl (lv_at hl 0 rfl) ?_
          obtain ⟨r6, σ7, hc, hf⟩ := obd_some hf
          refine zr_callv (As := [.int x2]) (rest := []) X J 8 ho_C_X10.1 ho_C_X10.2.1 ho_C_X10.2.2 yy_X10_finish mw_methodLink_TinyCWalker_102_TinyCWalker_finish_IV (d := 3) (zR_ok (by omega) (by decide)) hl.1 rfl (Nat.le_of_ble_eq_true rfl) (tX10_finish  hc) dX10_takeItem_118 (fun H locs J => ?_)
          refine lv_goto hx hb dX10_takeItem_121 rfl ?_
          exact zr_vret X J hf dX10_takeItem_187
        have hf := itn h1_ hf
        by_cases h2_ : x3 = (2 : Int32)
        · have hf := itp h2_ hf
          rw [h2_]
          refine lv_tableIn hx hb dX10_takeItem_61 (by decide) (by decide) (tgt := 124) (by rfl) (by decide) ?_
          refine lv_aload_n hx hb dX10_takeItem_124 rfl (lv_at hl 1 rfl) ?_
          refine lv_aload_n hx hb dX10_takeItem_125 rfl (lv_at hl 1 rfl) ?_
          obtain ⟨r8, σ9, hc, hf⟩ := obd_some hf
          refine zr_calli (As := []) (rest := [.ref (ad 8)]) X J 8 ho_C_X10.1 ho_C_X10.2.1 ho_C_X10.2.2 yy_X10_popValue mw_methodLink_TinyCWalker_88_TinyCWalker_popValue_I (d := 0) (zR_ok (by omega) (by decide)) hl.1 rfl (Nat.le_of_ble_eq_true rfl) (tX10_popValue  hc) dX10_takeItem_126 (fun H locs J => ?_)
          refine lv_if_eq hx hb dX10_takeItem_129 rfl (fun h => ?_) (fun h => ?_)
          · have hf := itp h hf
            refine lv_iconst (v := (0 : Int32)) hx hb dX10_takeItem_136 (by decide) ?_
            exact bX10_takeItem_137 X   J (lv_sub hl [] rfl) hf
          · have hf := itn h hf
            refine lv_iconst (v := (1 : Int32)) hx hb dX10_takeItem_132 (by decide) ?_
            refine lv_goto hx hb dX10_takeItem_133 rfl ?_
            exact bX10_takeItem_137 X   J (lv_sub hl [] rfl) hf
        have hf := itn h2_ hf
        by_cases h3_ : x3 = (3 : Int32)
        · have hf := itp h3_ hf
          rw [h3_]
          refine lv_tableIn hx hb dX10_takeItem_61 (by decide) (by decide) (tgt := 143) (by rfl) (by decide) ?_
          refine lv_aload_n hx hb dX10_takeItem_143 rfl (lv_at hl 1 rfl) ?_
          refine lv_iload_n hx hb dX10_takeItem_144 rfl (lv_at hl 0 rfl) ?_
          obtain ⟨r12, σ13, hc, hf⟩ := obd_some hf
          refine zr_callv (As := [.int x2]) (rest := []) X J 8 ho_C_X10.1 ho_C_X10.2.1 ho_C_X10.2.2 yy_X10_enter mw_methodLink_TinyCWalker_108_TinyCWalker_enter_IV (d := 1) (zR_ok (by omega) (by decide)) hl.1 rfl (Nat.le_of_ble_eq_true rfl) (tX10_enter  hc) dX10_takeItem_145 (fun H locs J => ?_)
          refine lv_goto hx hb dX10_takeItem_148 rfl ?_
          exact zr_vret X J hf dX10_takeItem_187
        have hf := itn h3_ hf
        by_cases h4_ : x3 = (4 : Int32)
        · have hf := itp h4_ hf
          rw [h4_]
          refine lv_tableIn hx hb dX10_takeItem_61 (by decide) (by decide) (tgt := 151) (by rfl) (by decide) ?_
          refine lv_aload_n hx hb dX10_takeItem_151 rfl (lv_at hl 1 rfl) ?_
          refine lv_iload_n hx hb dX10_takeItem_152 rfl (lv_at hl 0 rfl) ?_
          obtain ⟨r14, σ15, hc, hf⟩ := obd_some hf
          refine zr_callv (As := [.int x2]) (rest := []) X J 8 ho_C_X10.1 ho_C_X10.2.1 ho_C_X10.2.2 yy_X10_openRow mw_methodLink_TinyCWalker_111_TinyCWalker_openRow_IV (d := 1) (zR_ok (by omega) (by decide)) hl.1 rfl (Nat.le_of_ble_eq_true rfl) (tX10_openRow  hc) dX10_takeItem_153 (fun H locs J => ?_)
          refine lv_goto hx hb dX10_takeItem_156 rfl ?_
          exact zr_vret X J hf dX10_takeItem_187
        have hf := itn h4_ hf
        by_cases h5_ : x3 = (5 : Int32)
        · have hf := itp h5_ hf
          rw [h5_]
          refine lv_tableIn hx hb dX10_takeItem_61 (by decide) (by decide) (tgt := 159) (by rfl) (by decide) ?_
          refine lv_aload_n hx hb dX10_takeItem_159 rfl (lv_at hl 1 rfl) ?_
          refine lv_iload_n hx hb dX10_takeItem_160 rfl (lv_at hl 0 rfl) ?_
          obtain ⟨r16, σ17, hc, hf⟩ := obd_some hf
          refine zr_callv (As := [.int x2]) (rest := []) X J 8 ho_C_X10.1 ho_C_X10.2.1 ho_C_X10.2.2 yy_X10_goAlong mw_methodLink_TinyCWalker_114_TinyCWalker_goAlong_IV (d := 1) (zR_ok (by omega) (by decide)) hl.1 rfl (Nat.le_of_ble_eq_true rfl) (tX10_goAlong  hc) dX10_takeItem_161 (fun H locs J => ?_)
          refine lv_goto hx hb dX10_takeItem_164 rfl ?_
          exact zr_vret X J hf dX10_takeItem_187
        have hf := itn h5_ hf
        by_cases h6_ : x3 = (6 : Int32)
        · have hf := itp h6_ hf
          rw [h6_]
          refine lv_tableIn hx hb dX10_takeItem_61 (by decide) (by decide) (tgt := 167) (by rfl) (by decide) ?_
          refine lv_aload_n hx hb dX10_takeItem_167 rfl (lv_at hl 1 rfl) ?_
          obtain ⟨r18, σ19, hc, hf⟩ := obd_some hf
          refine zr_callv (As := []) (rest := []) X J 8 ho_C_X10.1 ho_C_X10.2.1 ho_C_X10.2.2 yy_X10_dropFrame mw_methodLink_TinyCWalker_117_TinyCWalker_dropFrame_V (d := 0) (zR_ok (by omega) (by decide)) hl.1 rfl (Nat.le_of_ble_eq_true rfl) (tX10_dropFrame  hc) dX10_takeItem_168 (fun H locs J => ?_)
          refine lv_aload_n hx hb dX10_takeItem_171 rfl (lv_at hl 1 rfl) ?_
          refine lv_iconst (v := (0 : Int32)) hx hb dX10_takeItem_172 (by decide) ?_
          obtain ⟨r20, σ21, hc, hf⟩ := obd_some hf
          refine zr_callv (As := [.int (0 : Int32)]) (rest := []) X J 8 ho_C_X10.1 ho_C_X10.2.1 ho_C_X10.2.2 yy_X10_pushValue mw_methodLink_TinyCWalker_105_TinyCWalker_pushValue_IV (d := 0) (zR_ok (by omega) (by decide)) hl.1 rfl (Nat.le_of_ble_eq_true rfl) (tX10_pushValue  hc) dX10_takeItem_173 (fun H locs J => ?_)
          refine lv_goto hx hb dX10_takeItem_176 rfl ?_
          exact zr_vret X J hf dX10_takeItem_187
        have hf := itn h6_ hf
        by_cases h7_ : x3 = (7 : Int32)
        · have hf := itp h7_ hf
          rw [h7_]
          refine lv_tableIn hx hb dX10_takeItem_61 (by decide) (by decide) (tgt := 179) (by rfl) (by decide) ?_
          refine lv_aload_n hx hb dX10_takeItem_179 rfl (lv_at hl 1 rfl) ?_
          obtain ⟨r22, σ23, hc, hf⟩ := obd_some hf
          refine zr_calli (As := []) (rest := []) X J 8 ho_C_X10.1 ho_C_X10.2.1 ho_C_X10.2.2 yy_X10_popValue mw_methodLink_TinyCWalker_88_TinyCWalker_popValue_I (d := 0) (zR_ok (by omega) (by decide)) hl.1 rfl (Nat.le_of_ble_eq_true rfl) (tX10_popValue  hc) dX10_takeItem_180 (fun H locs J => ?_)
          refine lv_pop hx hb dX10_takeItem_183 rfl ?_
          refine lv_goto hx hb dX10_takeItem_184 rfl ?_
          exact zr_vret X J hf dX10_takeItem_187
        have hf := itn h7_ hf
        refine lv_tableOut hx hb dX10_takeItem_61 (tgt := 187) (by have := lv_neT h0_ (a := 0) (by decide); have := lv_neT h1_ (a := 1) (by decide); have := lv_neT h2_ (a := 2) (by decide); have := lv_neT h3_ (a := 3) (by decide); have := lv_neT h4_ (a := 4) (by decide); have := lv_neT h5_ (a := 5) (by decide); have := lv_neT h6_ (a := 6) (by decide); have := lv_neT h7_ (a := 7) (by decide); omega) (by decide) ?_
        exact zr_vret X J hf dX10_takeItem_187
      · have hf := itn h hf
        exact zr_vret X J hf dX10_takeItem_31
set_option maxHeartbeats 4000000 in
theorem bX10_lookAround_62 {o : Unit × zSt} (X : zX p s m args meth c D cy shC ad ts cX10_lookAround 1 none RX10)  {s0_ : Int32}  {σ : zSt} {H : Heap} {locs : List Loc} {ls : Array Slot} (J : zJ D cy shC ad ln s σ H locs) (hl : lv_has ls 1 []) (hf : fX10_lookAround_b62 ln N M  s0_ σ = some o) : W p l e (zRm (1)) s m args below meth c H locs 0 0 (zQv D cy shC ad ts ln below args s o) (F0 m 62 ls [.int s0_, .ref (ad 8)]) := by
  have hx := X.1
  have hb := X.2.1
  unfold fX10_lookAround_b62 at hf
  refine pf_X10_68 X J dX10_lookAround_62 (fun σ5 H locs eq J => ?_)
  have hf := bnd_eq eq hf
  clear eq
  exact zr_vret X J hf dX10_lookAround_65
set_option maxHeartbeats 4000000 in
theorem tX10_lookAround   {σ u : zSt} {r : Unit} (hf : fX10_lookAround ln N M  σ = some (r, u)) : zMv l yX10_lookAround cX10_lookAround 1 none (1) D cy shC ad ts ln [.ref (ad 8)] σ u := by
  refine zM_of (by decide) (Nat.le_of_ble_eq_true rfl) (fun p e s m args below meth c ls ha X J hl => ?_)
  have hx := X.1
  have hb := X.2.1
  have hl : lv_has ls 1 [(0, .ref (ad 8))] := hl
  generalize s.heap = H at J ⊢
  generalize ([] : List Loc) = locs at J ⊢
  show W p l e (zRm (1)) s m args below meth c H locs 0 0 (zQv D cy shC ad ts ln below args s (r, u)) (F0 m 0 ls [])
  unfold fX10_lookAround at hf
  refine lv_aload_n hx hb dX10_lookAround_0 rfl (lv_at hl 0 rfl) ?_
  refine gf_X10_56 X J dX10_lookAround_1 ?_
  refine lv_aload_n hx hb dX10_lookAround_4 rfl (lv_at hl 0 rfl) ?_
  refine gf_X10_59 X J dX10_lookAround_5 ?_
  refine lv_iadd hx hb dX10_lookAround_8 ?_
  refine lv_aload_n hx hb dX10_lookAround_9 rfl (lv_at hl 0 rfl) ?_
  refine gf_X10_65 X J dX10_lookAround_10 ?_
  refine lv_iadd hx hb dX10_lookAround_13 ?_
  refine lv_aload_n hx hb dX10_lookAround_14 rfl (lv_at hl 0 rfl) ?_
  refine gf_X10_9 X J dX10_lookAround_15 ?_
  refine lv_aload_n hx hb dX10_lookAround_18 rfl (lv_at hl 0 rfl) ?_
  refine gf_X10_47 X J dX10_lookAround_19 ?_
  refine lv_isub hx hb dX10_lookAround_22 ?_
  refine lv_icmp_le hx hb dX10_lookAround_23 rfl (fun h => ?_) (fun h => ?_)
  · have hf := itp h hf
    refine lv_aload_n hx hb dX10_lookAround_34 rfl (lv_at hl 0 rfl) ?_
    refine gf_X10_59 X J dX10_lookAround_35 ?_
    refine lv_if_ne hx hb dX10_lookAround_38 rfl (fun h => ?_) (fun h => ?_)
    · have hf := itn h hf
      exact zr_vret X J hf dX10_lookAround_65
    · have hf := itp h hf
      refine lv_aload_n hx hb dX10_lookAround_41 rfl (lv_at hl 0 rfl) ?_
      refine lv_aload_n hx hb dX10_lookAround_42 rfl (lv_at hl 0 rfl) ?_
      refine gf_X10_15 X J dX10_lookAround_43 ?_
      refine lv_aload_n hx hb dX10_lookAround_46 rfl (lv_at hl 0 rfl) ?_
      obtain ⟨r1, σ2, hc, hf⟩ := obd_some hf
      refine zr_calli (As := []) (rest := [.ref (ad 6), .ref (ad 8)]) X J 8 ho_C_X10.1 ho_C_X10.2.1 ho_C_X10.2.2 yy_X10_popValue mw_methodLink_TinyCWalker_88_TinyCWalker_popValue_I (d := 0) (zR_ok (by omega) (by decide)) hl.1 rfl (Nat.le_of_ble_eq_true rfl) (tX10_popValue  hc) dX10_lookAround_47 (fun H locs J => ?_)
      obtain ⟨r3, σ4, hc, hf⟩ := obd_some hf
      refine zr_callNi (As := [.int r1]) (rest := [.ref (ad 8)]) X J 6 ho_C_X8.1 ho_C_X8.2.1 ho_C_X8.2.2 yy_X8_putOutput mw_methodLinkNest_TinyCWalker_92_TinyCTape_putOutput_IZ_TinyC (d := 0) (zR_ok (by omega) (by decide)) hl.1 rfl (Nat.le_of_ble_eq_true rfl) (tX8_putOutput  hc) dX10_lookAround_50 (fun H locs J => ?_)
      refine lv_if_eq hx hb dX10_lookAround_53 rfl (fun h => ?_) (fun h => ?_)
      · have hf := itp h hf
        refine lv_bipush (v := (6 : Int32)) hx hb dX10_lookAround_60 (by decide) ?_
        exact bX10_lookAround_62 X   J (lv_sub hl [] rfl) hf
      · have hf := itn h hf
        refine lv_iconst (v := (1 : Int32)) hx hb dX10_lookAround_56 (by decide) ?_
        refine lv_goto hx hb dX10_lookAround_57 rfl ?_
        exact bX10_lookAround_62 X   J (lv_sub hl [] rfl) hf
  · have hf := itn h hf
    refine lv_aload_n hx hb dX10_lookAround_26 rfl (lv_at hl 0 rfl) ?_
    refine lv_iconst (v := (4 : Int32)) hx hb dX10_lookAround_27 (by decide) ?_
    refine pf_X10_68 X J dX10_lookAround_28 (fun σ6 H locs eq J => ?_)
    have hf := bnd_eq eq hf
    clear eq
    refine lv_goto hx hb dX10_lookAround_31 rfl ?_
    exact zr_vret X J hf dX10_lookAround_65
set_option maxHeartbeats 4000000 in
theorem bX10_goOn_34 {o : Int32 × zSt} (X : zX p s m args meth c D cy shC ad ts cX10_goOn 3 (some .int) RX10) {k2 : Int32 → Int32 → zSt → Option (Int32 × zSt)} (hk2 : ∀ (x1_ : Int32) (x2_ : Int32) (σ : zSt) (H : Heap) (locs : List Loc) (ls : Array Slot), zJ D cy shC ad ln s σ H locs → lv_has ls 3 [(0, .ref (ad 8)), (1, .int x1_), (2, .int x2_)] → k2 x1_ x2_ σ = some o → W p l e (zRm (5)) s m args below meth c H locs 0 0 (zQi D cy shC ad ts ln below args s o) (F0 m 2 ls [])) {x1_ : Int32} {x2_ : Int32}  {σ : zSt} {H : Heap} {locs : List Loc} {ls : Array Slot} (J : zJ D cy shC ad ln s σ H locs) (hl : lv_has ls 3 [(0, .ref (ad 8)), (1, .int x1_), (2, .int x2_)]) (hf : fX10_goOn_b34 ln N M k2 x1_ x2_ σ = some o) : W p l e (zRm (5)) s m args below meth c H locs 0 0 (zQi D cy shC ad ts ln below args s o) (F0 m 34 ls []) := by
  have hx := X.1
  have hb := X.2.1
  unfold fX10_goOn_b34 at hf
  obtain ⟨x5, eq⟩ : ∃ z, z = x2_ + (1 : Int32) := ⟨_, rfl⟩
  have hf := bnd_eq eq hf
  refine lv_iinc hx hb dX10_goOn_34 hl (k := 2) rfl (v := x5) (by rw [eq]; rfl) (by decide) rfl (fun ls hl => ?_)
  clear eq
  have hl : lv_has ls 3 [(2, .int x5), (0, .ref (ad 8)), (1, .int x1_)] := hl
  refine lv_goto hx hb dX10_goOn_37 rfl ?_
  exact hk2 _ _ _ _ _ _ J (lv_sub hl [1, 2, 0] rfl) hf
set_option maxHeartbeats 4000000 in
theorem bX10_goOn_2 {o : Int32 × zSt} (X : zX p s m args meth c D cy shC ad ts cX10_goOn 3 (some .int) RX10)  : ∀ (n : Nat) (x1_ : Int32) (x2_ : Int32) (σ : zSt) (H : Heap) (locs : List Loc) (ls : Array Slot), zJ D cy shC ad ln s σ H locs → lv_has ls 3 [(0, .ref (ad 8)), (1, .int x1_), (2, .int x2_)] → fX10_goOn_b2 ln N M  n x1_ x2_ σ = some o → W p l e (zRm (5)) s m args below meth c H locs 0 0 (zQi D cy shC ad ts ln below args s o) (F0 m 2 ls []) := by
  have hx := X.1
  have hb := X.2.1
  intro n
  induction n with
  | zero =>
    intro x1_ x2_ σ H locs ls J hl hf
    rw [fX10_goOn_b2] at hf
    cases hf
  | succ n ih =>
    intro x1_ x2_ σ H locs ls J hl hf
    rw [fX10_goOn_b2] at hf
    refine lv_iload_n hx hb dX10_goOn_2 rfl (lv_at hl 2 rfl) ?_
    refine lv_iload_n hx hb dX10_goOn_3 rfl (lv_at hl 1 rfl) ?_
    refine lv_icmp_ge hx hb dX10_goOn_4 rfl (fun h => ?_) (fun h => ?_)
    · have hf := itp h hf
      refine lv_aload_n hx hb dX10_goOn_40 rfl (lv_at hl 0 rfl) ?_
      refine gf_X10_68 X J dX10_goOn_41 ?_
      exact zr_iret X J hf dX10_goOn_44
    · have hf := itn h hf
      refine lv_aload_n hx hb dX10_goOn_7 rfl (lv_at hl 0 rfl) ?_
      refine gf_X10_68 X J dX10_goOn_8 ?_
      refine lv_if_ne hx hb dX10_goOn_11 rfl (fun h => ?_) (fun h => ?_)
      · have hf := itn h hf
        refine lv_aload_n hx hb dX10_goOn_40 rfl (lv_at hl 0 rfl) ?_
        refine gf_X10_68 X J dX10_goOn_41 ?_
        exact zr_iret X J hf dX10_goOn_44
      · have hf := itp h hf
        refine lv_aload_n hx hb dX10_goOn_14 rfl (lv_at hl 0 rfl) ?_
        refine lv_iconst (v := (1 : Int32)) hx hb dX10_goOn_15 (by decide) ?_
        refine pf_X10_71 X J (by decide) dX10_goOn_16 (fun σ2 H locs eq J => ?_)
        have hf := bnd_eq eq hf
        clear eq
        refine lv_aload_n hx hb dX10_goOn_19 rfl (lv_at hl 0 rfl) ?_
        obtain ⟨r3, σ4, hc, hf⟩ := obd_some hf
        refine zr_callv (As := []) (rest := []) X J 8 ho_C_X10.1 ho_C_X10.2.1 ho_C_X10.2.2 yy_X10_takeItem mw_methodLink_TinyCWalker_82_TinyCWalker_takeItem_V (d := 4) (zR_ok (by omega) (by decide)) hl.1 rfl (Nat.le_of_ble_eq_true rfl) (tX10_takeItem  hc) dX10_goOn_20 (fun H locs J => ?_)
        refine lv_aload_n hx hb dX10_goOn_23 rfl (lv_at hl 0 rfl) ?_
        refine gf_X10_68 X J dX10_goOn_24 ?_
        refine lv_if_ne hx hb dX10_goOn_27 rfl (fun h => ?_) (fun h => ?_)
        · have hf := itn h hf
          exact bX10_goOn_34 X ih  J (lv_sub hl [0, 1, 2] rfl) hf
        · have hf := itp h hf
          refine lv_aload_n hx hb dX10_goOn_30 rfl (lv_at hl 0 rfl) ?_
          obtain ⟨r6, σ7, hc, hf⟩ := obd_some hf
          refine zr_callv (As := []) (rest := []) X J 8 ho_C_X10.1 ho_C_X10.2.1 ho_C_X10.2.2 yy_X10_lookAround mw_methodLink_TinyCWalker_85_TinyCWalker_lookAround_V (d := 1) (zR_ok (by omega) (by decide)) hl.1 rfl (Nat.le_of_ble_eq_true rfl) (tX10_lookAround  hc) dX10_goOn_31 (fun H locs J => ?_)
          exact bX10_goOn_34 X ih  J (lv_sub hl [0, 1, 2] rfl) hf
set_option maxHeartbeats 4000000 in
theorem tX10_goOn {a1_ : Int32}  {σ u : zSt} {r : Int32} (hf : fX10_goOn ln N M a1_ σ = some (r, u)) : zMi l yX10_goOn cX10_goOn 3 (some .int) (5) D cy shC ad ts ln [.ref (ad 8), .int a1_] σ r u := by
  refine zM_of (by decide) (Nat.le_of_ble_eq_true rfl) (fun p e s m args below meth c ls ha X J hl => ?_)
  have hx := X.1
  have hb := X.2.1
  have hl : lv_has ls 3 [(0, .ref (ad 8)), (1, .int a1_)] := hl
  generalize s.heap = H at J ⊢
  generalize ([] : List Loc) = locs at J ⊢
  show W p l e (zRm (5)) s m args below meth c H locs 0 0 (zQi D cy shC ad ts ln below args s (r, u)) (F0 m 0 ls [])
  unfold fX10_goOn at hf
  refine lv_iconst (v := (0 : Int32)) hx hb dX10_goOn_0 (by decide) ?_
  refine lv_topi (fun x1 eq => ?_)
  have hf := bnd_eq eq hf
  clear eq
  refine lv_istore_n hx hb dX10_goOn_1 rfl hl (by decide) rfl (fun ls hl => ?_)
  have hl : lv_has ls 3 [(2, .int x1), (0, .ref (ad 8)), (1, .int a1_)] := hl
  exact bX10_goOn_2 X  N _ _ _ _ _ _ J (lv_sub hl [1, 2, 0] rfl) hf
set_option maxHeartbeats 4000000 in
theorem tX11_interpret {a1_ : Int32}  {σ u : zSt} {r : Int32} (hf : fX11_interpret ln N M a1_ σ = some (r, u)) : zMi l yX11_interpret cX11_interpret 2 (some .int) (6) D cy shC ad ts ln [.ref (ad 0), .int a1_] σ r u := by
  refine zM_of (by decide) (Nat.le_of_ble_eq_true rfl) (fun p e s m args below meth c ls ha X J hl => ?_)
  have hx := X.1
  have hb := X.2.1
  have hl : lv_has ls 2 [(0, .ref (ad 0)), (1, .int a1_)] := hl
  generalize s.heap = H at J ⊢
  generalize ([] : List Loc) = locs at J ⊢
  show W p l e (zRm (6)) s m args below meth c H locs 0 0 (zQi D cy shC ad ts ln below args s (r, u)) (F0 m 0 ls [])
  unfold fX11_interpret at hf
  refine lv_aload_n hx hb dX11_interpret_0 rfl (lv_at hl 0 rfl) ?_
  obtain ⟨q1, hq1, er, hf⟩ := rbd_some hf
  refine gf_X11_44 X J er dX11_interpret_1 ?_
  refine gf_X11_105 hq1 X J dX11_interpret_4 ?_
  refine lv_if_ne hx hb dX11_interpret_7 rfl (fun h => ?_) (fun h => ?_)
  · have hf := itn h hf
    refine lv_aload_n hx hb dX11_interpret_12 rfl (lv_at hl 0 rfl) ?_
    refine gf_X11_63 X J dX11_interpret_13 ?_
    refine gf_X11_109 X J dX11_interpret_16 ?_
    refine lv_if_eq hx hb dX11_interpret_19 rfl (fun h => ?_) (fun h => ?_)
    · have hf := itp h hf
      refine lv_aload_n hx hb dX11_interpret_25 rfl (lv_at hl 0 rfl) ?_
      refine gf_X11_70 X J dX11_interpret_26 ?_
      refine lv_iload_n hx hb dX11_interpret_29 rfl (lv_at hl 1 rfl) ?_
      obtain ⟨r2, σ3, hc, hf⟩ := obd_some hf
      refine zr_callNi (As := [.int a1_]) (rest := []) X J 8 ho_C_X10.1 ho_C_X10.2.1 ho_C_X10.2.2 yy_X10_goOn mw_methodLinkNest_TinyC_112_TinyCWalker_goOn_II_TinyC (d := 5) (zR_ok (by omega) (by decide)) hl.1 rfl (Nat.le_of_ble_eq_true rfl) (tX10_goOn  hc) dX11_interpret_30 (fun H locs J => ?_)
      exact zr_iret X J hf dX11_interpret_33
    · have hf := itn h hf
      refine lv_bipush (v := (-2 : Int32)) hx hb dX11_interpret_22 (by decide) ?_
      exact zr_iret X J hf dX11_interpret_24
  · have hf := itp h hf
    refine lv_iconst (v := (-1 : Int32)) hx hb dX11_interpret_10 (by decide) ?_
    exact zr_iret X J hf dX11_interpret_11
set_option maxHeartbeats 4000000 in
theorem tX11_reset   {σ u : zSt} {r : Unit} (hf : fX11_reset ln N M  σ = some (r, u)) : zMv l yX11_reset cX11_reset 1 none (3) D cy shC ad ts ln [.ref (ad 0)] σ u := by
  refine zM_of (by decide) (Nat.le_of_ble_eq_true rfl) (fun p e s m args below meth c ls ha X J hl => ?_)
  have hx := X.1
  have hb := X.2.1
  have hl : lv_has ls 1 [(0, .ref (ad 0))] := hl
  generalize s.heap = H at J ⊢
  generalize ([] : List Loc) = locs at J ⊢
  show W p l e (zRm (3)) s m args below meth c H locs 0 0 (zQv D cy shC ad ts ln below args s (r, u)) (F0 m 0 ls [])
  unfold fX11_reset at hf
  refine lv_aload_n hx hb dX11_reset_0 rfl (lv_at hl 0 rfl) ?_
  obtain ⟨r1, σ2, hc, hf⟩ := obd_some hf
  refine zr_callv (As := []) (rest := []) X J 0 ho_C_X11.1 ho_C_X11.2.1 ho_C_X11.2.2 yy_X11_beginAgain mw_methodLink_TinyC_96_TinyC_beginAgain_V (d := 2) (zR_ok (by omega) (by decide)) hl.1 rfl (Nat.le_of_ble_eq_true rfl) (tX11_beginAgain  hc) dX11_reset_1 (fun H locs J => ?_)
  exact zr_vret X J hf dX11_reset_4
set_option maxHeartbeats 4000000 in
theorem tX11_outSize   {σ u : zSt} {r : Int32} (hf : fX11_outSize ln N M  σ = some (r, u)) : zMi l yX11_outSize cX11_outSize 1 (some .int) (0) D cy shC ad ts ln [.ref (ad 0)] σ r u := by
  refine zM_of (by decide) (Nat.le_of_ble_eq_true rfl) (fun p e s m args below meth c ls ha X J hl => ?_)
  have hx := X.1
  have hb := X.2.1
  have hl : lv_has ls 1 [(0, .ref (ad 0))] := hl
  generalize s.heap = H at J ⊢
  generalize ([] : List Loc) = locs at J ⊢
  show W p l e (zRm (0)) s m args below meth c H locs 0 0 (zQi D cy shC ad ts ln below args s (r, u)) (F0 m 0 ls [])
  unfold fX11_outSize at hf
  refine lv_aload_n hx hb dX11_outSize_0 rfl (lv_at hl 0 rfl) ?_
  refine gf_X11_54 X J dX11_outSize_1 ?_
  refine gf_X11_115 X J dX11_outSize_4 ?_
  exact zr_iret X J hf dX11_outSize_7
set_option maxHeartbeats 4000000 in
theorem tX8_outputAt {a1_ : Int32}  {σ u : zSt} {r : Int32} (hf : fX8_outputAt ln N M a1_ σ = some (r, u)) : zMi l yX8_outputAt cX8_outputAt 2 (some .int) (0) D cy shC ad ts ln [.ref (ad 6), .int a1_] σ r u := by
  refine zM_of (by decide) (Nat.le_of_ble_eq_true rfl) (fun p e s m args below meth c ls ha X J hl => ?_)
  have hx := X.1
  have hb := X.2.1
  have hl : lv_has ls 2 [(0, .ref (ad 6)), (1, .int a1_)] := hl
  generalize s.heap = H at J ⊢
  generalize ([] : List Loc) = locs at J ⊢
  show W p l e (zRm (0)) s m args below meth c H locs 0 0 (zQi D cy shC ad ts ln below args s (r, u)) (F0 m 0 ls [])
  unfold fX8_outputAt at hf
  refine lv_iload_n hx hb dX8_outputAt_0 rfl (lv_at hl 1 rfl) ?_
  refine lv_if_lt hx hb dX8_outputAt_1 rfl (fun h => ?_) (fun h => ?_)
  · have hf := itp h hf
    refine lv_iconst (v := (-1 : Int32)) hx hb dX8_outputAt_30 (by decide) ?_
    exact zr_iret X J hf dX8_outputAt_31
  · have hf := itn h hf
    refine lv_iload_n hx hb dX8_outputAt_4 rfl (lv_at hl 1 rfl) ?_
    refine lv_aload_n hx hb dX8_outputAt_5 rfl (lv_at hl 0 rfl) ?_
    refine gf_X8_23 X J dX8_outputAt_6 ?_
    refine lv_icmp_ge hx hb dX8_outputAt_9 rfl (fun h => ?_) (fun h => ?_)
    · have hf := itp h hf
      refine lv_iconst (v := (-1 : Int32)) hx hb dX8_outputAt_30 (by decide) ?_
      exact zr_iret X J hf dX8_outputAt_31
    · have hf := itn h hf
      refine lv_iload_n hx hb dX8_outputAt_12 rfl (lv_at hl 1 rfl) ?_
      refine lv_aload_n hx hb dX8_outputAt_13 rfl (lv_at hl 0 rfl) ?_
      refine gf_X8_13 X J dX8_outputAt_14 ?_
      refine an_X8_X8f1 X J dX8_outputAt_17 ?_
      refine lv_icmp_ge hx hb dX8_outputAt_18 rfl (fun h => ?_) (fun h => ?_)
      · have hf := itp h hf
        refine lv_iconst (v := (-1 : Int32)) hx hb dX8_outputAt_30 (by decide) ?_
        exact zr_iret X J hf dX8_outputAt_31
      · have hf := itn h hf
        refine lv_aload_n hx hb dX8_outputAt_21 rfl (lv_at hl 0 rfl) ?_
        refine gf_X8_13 X J dX8_outputAt_22 ?_
        refine lv_iload_n hx hb dX8_outputAt_25 rfl (lv_at hl 1 rfl) ?_
        obtain ⟨hin, hf⟩ := itx hf
        refine al_X8_X8f1 X J hin dX8_outputAt_26 ?_
        refine lv_goto hx hb dX8_outputAt_27 rfl ?_
        exact zr_iret X J hf dX8_outputAt_31
set_option maxHeartbeats 4000000 in
theorem tX11_out {a1_ : Int32}  {σ u : zSt} {r : Int32} (hf : fX11_out ln N M a1_ σ = some (r, u)) : zMi l yX11_out cX11_out 2 (some .int) (1) D cy shC ad ts ln [.ref (ad 0), .int a1_] σ r u := by
  refine zM_of (by decide) (Nat.le_of_ble_eq_true rfl) (fun p e s m args below meth c ls ha X J hl => ?_)
  have hx := X.1
  have hb := X.2.1
  have hl : lv_has ls 2 [(0, .ref (ad 0)), (1, .int a1_)] := hl
  generalize s.heap = H at J ⊢
  generalize ([] : List Loc) = locs at J ⊢
  show W p l e (zRm (1)) s m args below meth c H locs 0 0 (zQi D cy shC ad ts ln below args s (r, u)) (F0 m 0 ls [])
  unfold fX11_out at hf
  refine lv_aload_n hx hb dX11_out_0 rfl (lv_at hl 0 rfl) ?_
  refine gf_X11_54 X J dX11_out_1 ?_
  refine lv_iload_n hx hb dX11_out_4 rfl (lv_at hl 1 rfl) ?_
  obtain ⟨r1, σ2, hc, hf⟩ := obd_some hf
  refine zr_callNi (As := [.int a1_]) (rest := []) X J 6 ho_C_X8.1 ho_C_X8.2.1 ho_C_X8.2.2 yy_X8_outputAt mw_methodLinkNest_TinyC_119_TinyCTape_outputAt_II_TinyC (d := 0) (zR_ok (by omega) (by decide)) hl.1 rfl (Nat.le_of_ble_eq_true rfl) (tX8_outputAt  hc) dX11_out_5 (fun H locs J => ?_)
  exact zr_iret X J hf dX11_out_8
set_option maxHeartbeats 4000000 in
theorem tX11_codeSize   {σ u : zSt} {r : Int32} (hf : fX11_codeSize ln N M  σ = some (r, u)) : zMi l yX11_codeSize cX11_codeSize 1 (some .int) (0) D cy shC ad ts ln [.ref (ad 0)] σ r u := by
  refine zM_of (by decide) (Nat.le_of_ble_eq_true rfl) (fun p e s m args below meth c ls ha X J hl => ?_)
  have hx := X.1
  have hb := X.2.1
  have hl : lv_has ls 1 [(0, .ref (ad 0))] := hl
  generalize s.heap = H at J ⊢
  generalize ([] : List Loc) = locs at J ⊢
  show W p l e (zRm (0)) s m args below meth c H locs 0 0 (zQi D cy shC ad ts ln below args s (r, u)) (F0 m 0 ls [])
  unfold fX11_codeSize at hf
  refine lv_aload_n hx hb dX11_codeSize_0 rfl (lv_at hl 0 rfl) ?_
  obtain ⟨q1, hq1, er, hf⟩ := rbd_some hf
  refine gf_X11_44 X J er dX11_codeSize_1 ?_
  refine gf_X11_122 hq1 X J dX11_codeSize_4 ?_
  refine gf_X11_126 (by omega) X J dX11_codeSize_7 ?_
  exact zr_iret X J hf dX11_codeSize_10
set_option maxHeartbeats 4000000 in
theorem tX11_codeAt {a1_ : Int32}  {σ u : zSt} {r : Int32} (hf : fX11_codeAt ln N M a1_ σ = some (r, u)) : zMi l yX11_codeAt cX11_codeAt 2 (some .int) (1) D cy shC ad ts ln [.ref (ad 0), .int a1_] σ r u := by
  refine zM_of (by decide) (Nat.le_of_ble_eq_true rfl) (fun p e s m args below meth c ls ha X J hl => ?_)
  have hx := X.1
  have hb := X.2.1
  have hl : lv_has ls 2 [(0, .ref (ad 0)), (1, .int a1_)] := hl
  generalize s.heap = H at J ⊢
  generalize ([] : List Loc) = locs at J ⊢
  show W p l e (zRm (1)) s m args below meth c H locs 0 0 (zQi D cy shC ad ts ln below args s (r, u)) (F0 m 0 ls [])
  unfold fX11_codeAt at hf
  refine lv_aload_n hx hb dX11_codeAt_0 rfl (lv_at hl 0 rfl) ?_
  obtain ⟨q1, hq1, er, hf⟩ := rbd_some hf
  refine gf_X11_44 X J er dX11_codeAt_1 ?_
  refine gf_X11_122 hq1 X J dX11_codeAt_4 ?_
  refine lv_iload_n hx hb dX11_codeAt_7 rfl (lv_at hl 1 rfl) ?_
  obtain ⟨r2, σ3, hc, hf⟩ := obd_some hf
  refine zr_callNi (As := [.int a1_]) (rest := []) X J (q1 + 4) (ho_C_X0 (by omega)).1 (ho_C_X0 (by omega)).2.1 (ho_C_X0 (by omega)).2.2 yy_X0_at mw_methodLinkNest_TinyC_131_TinyCCode_at_II_TinyC (d := 0) (zR_ok (by omega) (by decide)) hl.1 rfl (Nat.le_of_ble_eq_true rfl) (tX0_at (by omega) hc) dX11_codeAt_8 (fun H locs J => ?_)
  exact zr_iret X J hf dX11_codeAt_11
end
