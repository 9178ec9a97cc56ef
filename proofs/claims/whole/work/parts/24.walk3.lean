section
variable {p : Program} {l : Launch} {e : Env} {s : State} {m : MethodId} {args : Array Value} {below : List Frame} {meth : Method} {c : Code} {D : va_G} {cy : Nat → ClassId} {ad ts : Nat → Nat} {N : Nat}
set_option maxHeartbeats 4000000 in
theorem bX12_statement_73 {o : Int32 × zSt} (X : zX p s m args meth c D cy shR ad ts cX12_statement 3 (some .int) RX12)    {σ : zSt} {H : Heap} {locs : List Loc} {ls : Array Slot} (J : zJ D cy shR ad lnR s σ H locs) (hl : lv_has ls 3 [(0, .ref (ad 0))]) (hf : fX12_statement_b73 N   σ = some o) : W p l e (zRm (12)) s m args below meth c H locs 0 0 (zQi D cy shR ad ts lnR below args s o) (F0 m 73 ls []) := by
  have hx := X.1
  have hb := X.2.1
  unfold fX12_statement_b73 at hf
  refine lv_aload_n hx hb dX12_statement_73 rfl (lv_at hl 0 rfl) ?_
  obtain ⟨r8, σ9, hc, hf⟩ := obd_some hf
  refine zr_calli (As := []) (rest := []) X J 0 ho_R_X12.1 ho_R_X12.2.1 ho_R_X12.2.2 yy_X12_branch mw_methodLink_TinyCModel_360_TinyCModel_branch_I (d := 11) (zR_ok (by omega) (by decide)) hl.1 rfl (Nat.le_of_ble_eq_true rfl) (tX12_branch  hc) dX12_statement_74 (fun H locs J => ?_)
  exact zr_iret X J hf dX12_statement_77
set_option maxHeartbeats 4000000 in
theorem bX12_statement_225 {o : Int32 × zSt} (X : zX p s m args meth c D cy shR ad ts cX12_statement 3 (some .int) RX12)    {σ : zSt} {H : Heap} {locs : List Loc} {ls : Array Slot} (J : zJ D cy shR ad lnR s σ H locs) (hl : lv_has ls 3 [(0, .ref (ad 0))]) (hf : fX12_statement_b225 N   σ = some o) : W p l e (zRm (12)) s m args below meth c H locs 0 0 (zQi D cy shR ad ts lnR below args s o) (F0 m 225 ls []) := by
  have hx := X.1
  have hb := X.2.1
  unfold fX12_statement_b225 at hf
  refine lv_aload_n hx hb dX12_statement_225 rfl (lv_at hl 0 rfl) ?_
  obtain ⟨r20, σ21, hc, hf⟩ := obd_some hf
  refine zr_callv (As := []) (rest := []) X J 0 ho_R_X12.1 ho_R_X12.2.1 ho_R_X12.2.2 yy_X12_stray mw_methodLink_TinyCModel_253_TinyCModel_stray_V (d := 1) (zR_ok (by omega) (by decide)) hl.1 rfl (Nat.le_of_ble_eq_true rfl) (tX12_stray  hc) dX12_statement_226 (fun H locs J => ?_)
  refine lv_iconst (v := (-1 : Int32)) hx hb dX12_statement_229 (by decide) ?_
  exact zr_iret X J hf dX12_statement_230
set_option maxHeartbeats 4000000 in
theorem bX12_statement_39 {o : Int32 × zSt} (X : zX p s m args meth c D cy shR ad ts cX12_statement 3 (some .int) RX12)  {x1_ : Int32}  {σ : zSt} {H : Heap} {locs : List Loc} {ls : Array Slot} (J : zJ D cy shR ad lnR s σ H locs) (hl : lv_has ls 3 [(0, .ref (ad 0)), (1, .int x1_)]) (hf : fX12_statement_b39 N  x1_ σ = some o) : W p l e (zRm (12)) s m args below meth c H locs 0 0 (zQi D cy shR ad ts lnR below args s o) (F0 m 39 ls []) := by
  have hx := X.1
  have hb := X.2.1
  unfold fX12_statement_b39 at hf
  refine lv_aload_n hx hb dX12_statement_39 rfl (lv_at hl 0 rfl) ?_
  refine lv_iload_n hx hb dX12_statement_40 rfl (lv_at hl 1 rfl) ?_
  obtain ⟨r56, σ57, hc, hf⟩ := obd_some hf
  refine zr_callv (As := [.int x1_]) (rest := []) X J 0 ho_R_X12.1 ho_R_X12.2.1 ho_R_X12.2.2 yy_X12_four mw_methodLink_TinyCModel_293_TinyCModel_four_IV (d := 1) (zR_ok (by omega) (by decide)) hl.1 rfl (Nat.le_of_ble_eq_true rfl) (tX12_four  hc) dX12_statement_41 (fun H locs J => ?_)
  refine lv_aload_n hx hb dX12_statement_44 rfl (lv_at hl 0 rfl) ?_
  obtain ⟨r58, σ59, hc, hf⟩ := obd_some hf
  refine zr_calli (As := []) (rest := []) X J 0 ho_R_X12.1 ho_R_X12.2.1 ho_R_X12.2.2 yy_X12_isWell mw_methodLink_TinyCModel_243_TinyCModel_isWell_Z (d := 0) (zR_ok (by omega) (by decide)) hl.1 rfl (Nat.le_of_ble_eq_true rfl) (tX12_isWell  hc) dX12_statement_45 (fun H locs J => ?_)
  refine lv_if_eq hx hb dX12_statement_48 rfl (fun h => ?_) (fun h => ?_)
  · have hf := itp h hf
    refine lv_iconst (v := (-1 : Int32)) hx hb dX12_statement_55 (by decide) ?_
    exact zr_iret X J hf dX12_statement_56
  · have hf := itn h hf
    refine lv_aload_n hx hb dX12_statement_51 rfl (lv_at hl 0 rfl) ?_
    obtain ⟨r60, σ61, hc, hf⟩ := obd_some hf
    refine zr_callv (As := []) (rest := []) X J 0 ho_R_X12.1 ho_R_X12.2.1 ho_R_X12.2.2 yy_X12_beginBlock mw_methodLink_TinyCModel_339_TinyCModel_beginBlock_V (d := 4) (zR_ok (by omega) (by decide)) hl.1 rfl (Nat.le_of_ble_eq_true rfl) (tX12_beginBlock  hc) dX12_statement_52 (fun H locs J => ?_)
    refine lv_iconst (v := (-1 : Int32)) hx hb dX12_statement_55 (by decide) ?_
    exact zr_iret X J hf dX12_statement_56
set_option maxHeartbeats 4000000 in
theorem tX12_statement   {σ u : zSt} {r : Int32} (hf : fX12_statement N  σ = some (r, u)) : zMi l yX12_statement cX12_statement 3 (some .int) (12) D cy shR ad ts lnR [.ref (ad 0)] σ r u := by
  refine zM_of (by decide) (Nat.le_of_ble_eq_true rfl) (fun p e s m args below meth c ls ha X J hl => ?_)
  have hx := X.1
  have hb := X.2.1
  have hl : lv_has ls 3 [(0, .ref (ad 0))] := hl
  generalize s.heap = H at J ⊢
  generalize ([] : List Loc) = locs at J ⊢
  show W p l e (zRm (12)) s m args below meth c H locs 0 0 (zQi D cy shR ad ts lnR below args s (r, u)) (F0 m 0 ls [])
  unfold fX12_statement at hf
  refine lv_aload_n hx hb dX12_statement_0 rfl (lv_at hl 0 rfl) ?_
  obtain ⟨r1, σ2, hc, hf⟩ := obd_some hf
  refine zr_calli (As := []) (rest := []) X J 0 ho_R_X12.1 ho_R_X12.2.1 ho_R_X12.2.2 yy_X12_isWell mw_methodLink_TinyCModel_243_TinyCModel_isWell_Z (d := 0) (zR_ok (by omega) (by decide)) hl.1 rfl (Nat.le_of_ble_eq_true rfl) (tX12_isWell  hc) dX12_statement_1 (fun H locs J => ?_)
  refine lv_if_ne hx hb dX12_statement_4 rfl (fun h => ?_) (fun h => ?_)
  · have hf := itn h hf
    refine lv_aload_n hx hb dX12_statement_9 rfl (lv_at hl 0 rfl) ?_
    refine gf_X12_199 X J dX12_statement_10 ?_
    refine lv_topi (fun x3 eq => ?_)
    have hf := bnd_eq eq hf
    clear eq
    refine lv_istore_n hx hb dX12_statement_13 rfl hl (by decide) rfl (fun ls hl => ?_)
    have hl : lv_has ls 3 [(1, .int x3), (0, .ref (ad 0))] := hl
    refine lv_aload_n hx hb dX12_statement_14 rfl (lv_at hl 1 rfl) ?_
    refine lv_bipush (v := (123 : Int32)) hx hb dX12_statement_15 (by decide) ?_
    obtain ⟨r4, σ5, hc, hf⟩ := obd_some hf
    refine zr_calli (As := [.int (123 : Int32)]) (rest := []) X J 0 ho_R_X12.1 ho_R_X12.2.1 ho_R_X12.2.2 yy_X12_isSign mw_methodLink_TinyCModel_247_TinyCModel_isSign_IZ (d := 1) (zR_ok (by omega) (by decide)) hl.1 rfl (Nat.le_of_ble_eq_true rfl) (tX12_isSign  hc) dX12_statement_17 (fun H locs J => ?_)
    refine lv_if_eq hx hb dX12_statement_20 rfl (fun h => ?_) (fun h => ?_)
    · have hf := itp h hf
      refine lv_aload_n hx hb dX12_statement_57 rfl (lv_at hl 1 rfl) ?_
      refine lv_iconst (v := (1 : Int32)) hx hb dX12_statement_58 (by decide) ?_
      obtain ⟨r6, σ7, hc, hf⟩ := obd_some hf
      refine zr_calli (As := [.int (1 : Int32)]) (rest := []) X J 0 ho_R_X12.1 ho_R_X12.2.1 ho_R_X12.2.2 yy_X12_isWord mw_methodLink_TinyCModel_290_TinyCModel_isWord_IZ (d := 1) (zR_ok (by omega) (by decide)) hl.1 rfl (Nat.le_of_ble_eq_true rfl) (tX12_isWord  hc) dX12_statement_59 (fun H locs J => ?_)
      refine lv_if_ne hx hb dX12_statement_62 rfl (fun h => ?_) (fun h => ?_)
      · have hf := itn h hf
        exact bX12_statement_73 X   J (lv_sub hl [1] rfl) hf
      · have hf := itp h hf
        refine lv_aload_n hx hb dX12_statement_65 rfl (lv_at hl 1 rfl) ?_
        refine lv_iconst (v := (3 : Int32)) hx hb dX12_statement_66 (by decide) ?_
        obtain ⟨r10, σ11, hc, hf⟩ := obd_some hf
        refine zr_calli (As := [.int (3 : Int32)]) (rest := []) X J 0 ho_R_X12.1 ho_R_X12.2.1 ho_R_X12.2.2 yy_X12_isWord mw_methodLink_TinyCModel_290_TinyCModel_isWord_IZ (d := 1) (zR_ok (by omega) (by decide)) hl.1 rfl (Nat.le_of_ble_eq_true rfl) (tX12_isWord  hc) dX12_statement_67 (fun H locs J => ?_)
        refine lv_if_eq hx hb dX12_statement_70 rfl (fun h => ?_) (fun h => ?_)
        · have hf := itp h hf
          refine lv_aload_n hx hb dX12_statement_78 rfl (lv_at hl 1 rfl) ?_
          refine lv_iconst (v := (4 : Int32)) hx hb dX12_statement_79 (by decide) ?_
          obtain ⟨r12, σ13, hc, hf⟩ := obd_some hf
          refine zr_calli (As := [.int (4 : Int32)]) (rest := []) X J 0 ho_R_X12.1 ho_R_X12.2.1 ho_R_X12.2.2 yy_X12_isWord mw_methodLink_TinyCModel_290_TinyCModel_isWord_IZ (d := 1) (zR_ok (by omega) (by decide)) hl.1 rfl (Nat.le_of_ble_eq_true rfl) (tX12_isWord  hc) dX12_statement_80 (fun H locs J => ?_)
          refine lv_if_eq hx hb dX12_statement_83 rfl (fun h => ?_) (fun h => ?_)
          · have hf := itp h hf
            refine lv_aload_n hx hb dX12_statement_122 rfl (lv_at hl 1 rfl) ?_
            refine lv_iconst (v := (5 : Int32)) hx hb dX12_statement_123 (by decide) ?_
            obtain ⟨r14, σ15, hc, hf⟩ := obd_some hf
            refine zr_calli (As := [.int (5 : Int32)]) (rest := []) X J 0 ho_R_X12.1 ho_R_X12.2.1 ho_R_X12.2.2 yy_X12_isWord mw_methodLink_TinyCModel_290_TinyCModel_isWord_IZ (d := 1) (zR_ok (by omega) (by decide)) hl.1 rfl (Nat.le_of_ble_eq_true rfl) (tX12_isWord  hc) dX12_statement_124 (fun H locs J => ?_)
            refine lv_if_eq hx hb dX12_statement_127 rfl (fun h => ?_) (fun h => ?_)
            · have hf := itp h hf
              refine lv_aload_n hx hb dX12_statement_178 rfl (lv_at hl 1 rfl) ?_
              refine lv_bipush (v := (59 : Int32)) hx hb dX12_statement_179 (by decide) ?_
              obtain ⟨r16, σ17, hc, hf⟩ := obd_some hf
              refine zr_calli (As := [.int (59 : Int32)]) (rest := []) X J 0 ho_R_X12.1 ho_R_X12.2.1 ho_R_X12.2.2 yy_X12_isSign mw_methodLink_TinyCModel_247_TinyCModel_isSign_IZ (d := 1) (zR_ok (by omega) (by decide)) hl.1 rfl (Nat.le_of_ble_eq_true rfl) (tX12_isSign  hc) dX12_statement_181 (fun H locs J => ?_)
              refine lv_if_eq hx hb dX12_statement_184 rfl (fun h => ?_) (fun h => ?_)
              · have hf := itp h hf
                refine lv_aload_n hx hb dX12_statement_205 rfl (lv_at hl 1 rfl) ?_
                obtain ⟨r18, σ19, hc, hf⟩ := obd_some hf
                refine zr_calli (As := []) (rest := []) X J 0 ho_R_X12.1 ho_R_X12.2.1 ho_R_X12.2.2 yy_X12_isWell mw_methodLink_TinyCModel_243_TinyCModel_isWell_Z (d := 0) (zR_ok (by omega) (by decide)) hl.1 rfl (Nat.le_of_ble_eq_true rfl) (tX12_isWell  hc) dX12_statement_206 (fun H locs J => ?_)
                refine lv_if_eq hx hb dX12_statement_209 rfl (fun h => ?_) (fun h => ?_)
                · have hf := itp h hf
                  exact bX12_statement_225 X   J (lv_sub hl [1] rfl) hf
                · have hf := itn h hf
                  refine lv_aload_n hx hb dX12_statement_212 rfl (lv_at hl 1 rfl) ?_
                  refine gf_X12_206 X J dX12_statement_213 ?_
                  refine lv_iconst (v := (1 : Int32)) hx hb dX12_statement_216 (by decide) ?_
                  refine lv_icmp_ne hx hb dX12_statement_217 rfl (fun h => ?_) (fun h => ?_)
                  · have hf := itn h hf
                    exact bX12_statement_225 X   J (lv_sub hl [1] rfl) hf
                  · have hf := itp h hf
                    refine lv_aload_n hx hb dX12_statement_220 rfl (lv_at hl 1 rfl) ?_
                    obtain ⟨r22, σ23, hc, hf⟩ := obd_some hf
                    refine zr_calli (As := []) (rest := []) X J 0 ho_R_X12.1 ho_R_X12.2.1 ho_R_X12.2.2 yy_X12_assignment mw_methodLink_TinyCModel_363_TinyCModel_assignment_I (d := 11) (zR_ok (by omega) (by decide)) hl.1 rfl (Nat.le_of_ble_eq_true rfl) (tX12_assignment  hc) dX12_statement_221 (fun H locs J => ?_)
                    exact zr_iret X J hf dX12_statement_224
              · have hf := itn h hf
                refine lv_aload_n hx hb dX12_statement_187 rfl (lv_at hl 1 rfl) ?_
                refine lv_iload_n hx hb dX12_statement_188 rfl (lv_at hl 0 rfl) ?_
                obtain ⟨r24, σ25, hc, hf⟩ := obd_some hf
                refine zr_callv (As := [.int x3]) (rest := []) X J 0 ho_R_X12.1 ho_R_X12.2.1 ho_R_X12.2.2 yy_X12_four mw_methodLink_TinyCModel_293_TinyCModel_four_IV (d := 1) (zR_ok (by omega) (by decide)) hl.1 rfl (Nat.le_of_ble_eq_true rfl) (tX12_four  hc) dX12_statement_189 (fun H locs J => ?_)
                refine lv_aload_n hx hb dX12_statement_192 rfl (lv_at hl 1 rfl) ?_
                refine lv_bipush (v := (30 : Int32)) hx hb dX12_statement_193 (by decide) ?_
                obtain ⟨r26, σ27, hc, hf⟩ := obd_some hf
                refine zr_calli (As := [.int (30 : Int32)]) (rest := []) X J 0 ho_R_X12.1 ho_R_X12.2.1 ho_R_X12.2.2 yy_X12_node mw_methodLink_TinyCModel_330_TinyCModel_node_II (d := 0) (zR_ok (by omega) (by decide)) hl.1 rfl (Nat.le_of_ble_eq_true rfl) (tX12_node  hc) dX12_statement_195 (fun H locs J => ?_)
                refine lv_istore_n hx hb dX12_statement_198 rfl hl (by decide) rfl (fun ls hl => ?_)
                have hl : lv_has ls 3 [(2, .int r26), (1, .int x3), (0, .ref (ad 0))] := hl
                refine lv_aload_n hx hb dX12_statement_199 rfl (lv_at hl 2 rfl) ?_
                obtain ⟨r28, σ29, hc, hf⟩ := obd_some hf
                refine zr_callv (As := []) (rest := []) X J 0 ho_R_X12.1 ho_R_X12.2.1 ho_R_X12.2.2 yy_X12_next mw_methodLink_TinyCModel_250_TinyCModel_next_V (d := 2) (zR_ok (by omega) (by decide)) hl.1 rfl (Nat.le_of_ble_eq_true rfl) (tX12_next  hc) dX12_statement_200 (fun H locs J => ?_)
                refine lv_iload_n hx hb dX12_statement_203 rfl (lv_at hl 0 rfl) ?_
                exact zr_iret X J hf dX12_statement_204
            · have hf := itn h hf
              refine lv_aload_n hx hb dX12_statement_130 rfl (lv_at hl 1 rfl) ?_
              refine lv_iload_n hx hb dX12_statement_131 rfl (lv_at hl 0 rfl) ?_
              obtain ⟨r30, σ31, hc, hf⟩ := obd_some hf
              refine zr_callv (As := [.int x3]) (rest := []) X J 0 ho_R_X12.1 ho_R_X12.2.1 ho_R_X12.2.2 yy_X12_four mw_methodLink_TinyCModel_293_TinyCModel_four_IV (d := 1) (zR_ok (by omega) (by decide)) hl.1 rfl (Nat.le_of_ble_eq_true rfl) (tX12_four  hc) dX12_statement_132 (fun H locs J => ?_)
              refine lv_aload_n hx hb dX12_statement_135 rfl (lv_at hl 1 rfl) ?_
              refine lv_bipush (v := (25 : Int32)) hx hb dX12_statement_136 (by decide) ?_
              obtain ⟨r32, σ33, hc, hf⟩ := obd_some hf
              refine zr_calli (As := [.int (25 : Int32)]) (rest := []) X J 0 ho_R_X12.1 ho_R_X12.2.1 ho_R_X12.2.2 yy_X12_node mw_methodLink_TinyCModel_330_TinyCModel_node_II (d := 0) (zR_ok (by omega) (by decide)) hl.1 rfl (Nat.le_of_ble_eq_true rfl) (tX12_node  hc) dX12_statement_138 (fun H locs J => ?_)
              refine lv_istore_n hx hb dX12_statement_141 rfl hl (by decide) rfl (fun ls hl => ?_)
              have hl : lv_has ls 3 [(2, .int r32), (1, .int x3), (0, .ref (ad 0))] := hl
              refine lv_aload_n hx hb dX12_statement_142 rfl (lv_at hl 2 rfl) ?_
              obtain ⟨r34, σ35, hc, hf⟩ := obd_some hf
              refine zr_callv (As := []) (rest := []) X J 0 ho_R_X12.1 ho_R_X12.2.1 ho_R_X12.2.2 yy_X12_next mw_methodLink_TinyCModel_250_TinyCModel_next_V (d := 2) (zR_ok (by omega) (by decide)) hl.1 rfl (Nat.le_of_ble_eq_true rfl) (tX12_next  hc) dX12_statement_143 (fun H locs J => ?_)
              refine lv_aload_n hx hb dX12_statement_146 rfl (lv_at hl 2 rfl) ?_
              refine lv_bipush (v := (40 : Int32)) hx hb dX12_statement_147 (by decide) ?_
              obtain ⟨r36, σ37, hc, hf⟩ := obd_some hf
              refine zr_callv (As := [.int (40 : Int32)]) (rest := []) X J 0 ho_R_X12.1 ho_R_X12.2.1 ho_R_X12.2.2 yy_X12_opens mw_methodLink_TinyCModel_300_TinyCModel_opens_IV (d := 3) (zR_ok (by omega) (by decide)) hl.1 rfl (Nat.le_of_ble_eq_true rfl) (tX12_opens  hc) dX12_statement_149 (fun H locs J => ?_)
              refine lv_aload_n hx hb dX12_statement_152 rfl (lv_at hl 2 rfl) ?_
              refine gf_X12_56 X J dX12_statement_153 ?_
              refine lv_iload_n hx hb dX12_statement_156 rfl (lv_at hl 0 rfl) ?_
              refine lv_aload_n hx hb dX12_statement_157 rfl (lv_at hl 2 rfl) ?_
              refine lv_bipush (v := (41 : Int32)) hx hb dX12_statement_158 (by decide) ?_
              obtain ⟨r38, σ39, hc, hf⟩ := obd_some hf
              refine zr_calli (As := [.int (41 : Int32)]) (rest := [.int r32, .ref (ad 16)]) X J 0 ho_R_X12.1 ho_R_X12.2.1 ho_R_X12.2.2 yy_X12_expression mw_methodLink_TinyCModel_357_TinyCModel_expression_II (d := 10) (zR_ok (by omega) (by decide)) hl.1 rfl (Nat.le_of_ble_eq_true rfl) (tX12_expression  hc) dX12_statement_160 (fun H locs J => ?_)
              obtain ⟨hin, hf⟩ := itx hf
              refine as_X12_X12f40 X J hin dX12_statement_163 (fun σ40 H locs eq J => ?_)
              have hf := bnd_eq eq hf
              clear eq
              refine lv_aload_n hx hb dX12_statement_164 rfl (lv_at hl 2 rfl) ?_
              refine lv_bipush (v := (41 : Int32)) hx hb dX12_statement_165 (by decide) ?_
              obtain ⟨r41, σ42, hc, hf⟩ := obd_some hf
              refine zr_callv (As := [.int (41 : Int32)]) (rest := []) X J 0 ho_R_X12.1 ho_R_X12.2.1 ho_R_X12.2.2 yy_X12_closes mw_methodLink_TinyCModel_307_TinyCModel_closes_IV (d := 4) (zR_ok (by omega) (by decide)) hl.1 rfl (Nat.le_of_ble_eq_true rfl) (tX12_closes  hc) dX12_statement_167 (fun H locs J => ?_)
              refine lv_aload_n hx hb dX12_statement_170 rfl (lv_at hl 2 rfl) ?_
              refine lv_bipush (v := (59 : Int32)) hx hb dX12_statement_171 (by decide) ?_
              obtain ⟨r43, σ44, hc, hf⟩ := obd_some hf
              refine zr_callv (As := [.int (59 : Int32)]) (rest := []) X J 0 ho_R_X12.1 ho_R_X12.2.1 ho_R_X12.2.2 yy_X12_takes mw_methodLink_TinyCModel_274_TinyCModel_takes_IV (d := 3) (zR_ok (by omega) (by decide)) hl.1 rfl (Nat.le_of_ble_eq_true rfl) (tX12_takes  hc) dX12_statement_173 (fun H locs J => ?_)
              refine lv_iload_n hx hb dX12_statement_176 rfl (lv_at hl 0 rfl) ?_
              exact zr_iret X J hf dX12_statement_177
          · have hf := itn h hf
            refine lv_aload_n hx hb dX12_statement_86 rfl (lv_at hl 1 rfl) ?_
            refine lv_iload_n hx hb dX12_statement_87 rfl (lv_at hl 0 rfl) ?_
            obtain ⟨r45, σ46, hc, hf⟩ := obd_some hf
            refine zr_callv (As := [.int x3]) (rest := []) X J 0 ho_R_X12.1 ho_R_X12.2.1 ho_R_X12.2.2 yy_X12_four mw_methodLink_TinyCModel_293_TinyCModel_four_IV (d := 1) (zR_ok (by omega) (by decide)) hl.1 rfl (Nat.le_of_ble_eq_true rfl) (tX12_four  hc) dX12_statement_88 (fun H locs J => ?_)
            refine lv_aload_n hx hb dX12_statement_91 rfl (lv_at hl 1 rfl) ?_
            refine lv_bipush (v := (24 : Int32)) hx hb dX12_statement_92 (by decide) ?_
            obtain ⟨r47, σ48, hc, hf⟩ := obd_some hf
            refine zr_calli (As := [.int (24 : Int32)]) (rest := []) X J 0 ho_R_X12.1 ho_R_X12.2.1 ho_R_X12.2.2 yy_X12_node mw_methodLink_TinyCModel_330_TinyCModel_node_II (d := 0) (zR_ok (by omega) (by decide)) hl.1 rfl (Nat.le_of_ble_eq_true rfl) (tX12_node  hc) dX12_statement_94 (fun H locs J => ?_)
            refine lv_istore_n hx hb dX12_statement_97 rfl hl (by decide) rfl (fun ls hl => ?_)
            have hl : lv_has ls 3 [(2, .int r47), (1, .int x3), (0, .ref (ad 0))] := hl
            refine lv_aload_n hx hb dX12_statement_98 rfl (lv_at hl 2 rfl) ?_
            obtain ⟨r49, σ50, hc, hf⟩ := obd_some hf
            refine zr_callv (As := []) (rest := []) X J 0 ho_R_X12.1 ho_R_X12.2.1 ho_R_X12.2.2 yy_X12_next mw_methodLink_TinyCModel_250_TinyCModel_next_V (d := 2) (zR_ok (by omega) (by decide)) hl.1 rfl (Nat.le_of_ble_eq_true rfl) (tX12_next  hc) dX12_statement_99 (fun H locs J => ?_)
            refine lv_aload_n hx hb dX12_statement_102 rfl (lv_at hl 2 rfl) ?_
            refine gf_X12_56 X J dX12_statement_103 ?_
            refine lv_iload_n hx hb dX12_statement_106 rfl (lv_at hl 0 rfl) ?_
            refine lv_aload_n hx hb dX12_statement_107 rfl (lv_at hl 2 rfl) ?_
            refine lv_bipush (v := (59 : Int32)) hx hb dX12_statement_108 (by decide) ?_
            obtain ⟨r51, σ52, hc, hf⟩ := obd_some hf
            refine zr_calli (As := [.int (59 : Int32)]) (rest := [.int r47, .ref (ad 16)]) X J 0 ho_R_X12.1 ho_R_X12.2.1 ho_R_X12.2.2 yy_X12_expression mw_methodLink_TinyCModel_357_TinyCModel_expression_II (d := 10) (zR_ok (by omega) (by decide)) hl.1 rfl (Nat.le_of_ble_eq_true rfl) (tX12_expression  hc) dX12_statement_110 (fun H locs J => ?_)
            obtain ⟨hin, hf⟩ := itx hf
            refine as_X12_X12f40 X J hin dX12_statement_113 (fun σ53 H locs eq J => ?_)
            have hf := bnd_eq eq hf
            clear eq
            refine lv_aload_n hx hb dX12_statement_114 rfl (lv_at hl 2 rfl) ?_
            refine lv_bipush (v := (59 : Int32)) hx hb dX12_statement_115 (by decide) ?_
            obtain ⟨r54, σ55, hc, hf⟩ := obd_some hf
            refine zr_callv (As := [.int (59 : Int32)]) (rest := []) X J 0 ho_R_X12.1 ho_R_X12.2.1 ho_R_X12.2.2 yy_X12_takes mw_methodLink_TinyCModel_274_TinyCModel_takes_IV (d := 3) (zR_ok (by omega) (by decide)) hl.1 rfl (Nat.le_of_ble_eq_true rfl) (tX12_takes  hc) dX12_statement_117 (fun H locs J => ?_)
            refine lv_iload_n hx hb dX12_statement_120 rfl (lv_at hl 0 rfl) ?_
            exact zr_iret X J hf dX12_statement_121
        · have hf := itn h hf
          exact bX12_statement_73 X   J (lv_sub hl [1] rfl) hf
    · have hf := itn h hf
      refine lv_aload_n hx hb dX12_statement_23 rfl (lv_at hl 1 rfl) ?_
      refine gf_X12_268 X J dX12_statement_24 ?_
      refine lv_bipush (v := (40 : Int32)) hx hb dX12_statement_27 (by decide) ?_
      refine lv_icmp_ne hx hb dX12_statement_29 rfl (fun h => ?_) (fun h => ?_)
      · have hf := itn h hf
        exact bX12_statement_39 X   J (lv_sub hl [1, 0] rfl) hf
      · have hf := itp h hf
        refine lv_aload_n hx hb dX12_statement_32 rfl (lv_at hl 1 rfl) ?_
        refine lv_bipush (v := (8 : Int32)) hx hb dX12_statement_33 (by decide) ?_
        refine lv_iload_n hx hb dX12_statement_35 rfl (lv_at hl 0 rfl) ?_
        obtain ⟨r62, σ63, hc, hf⟩ := obd_some hf
        refine zr_callv (As := [.int (8 : Int32), .int x3]) (rest := []) X J 0 ho_R_X12.1 ho_R_X12.2.1 ho_R_X12.2.2 yy_X12_fails mw_methodLink_TinyCModel_239_TinyCModel_fails_IIV (d := 0) (zR_ok (by omega) (by decide)) hl.1 rfl (Nat.le_of_ble_eq_true rfl) (tX12_fails  hc) dX12_statement_36 (fun H locs J => ?_)
        exact bX12_statement_39 X   J (lv_sub hl [1, 0] rfl) hf
  · have hf := itp h hf
    refine lv_iconst (v := (-1 : Int32)) hx hb dX12_statement_7 (by decide) ?_
    exact zr_iret X J hf dX12_statement_8
set_option maxHeartbeats 4000000 in
theorem bX12_inBlock_107 {o : Int32 × zSt} (X : zX p s m args meth c D cy shR ad ts cX12_inBlock 3 (some .int) RX12)  {x2_ : Int32} {s0_ : Int32} {s1_ : Int32}  {σ : zSt} {H : Heap} {locs : List Loc} {ls : Array Slot} (J : zJ D cy shR ad lnR s σ H locs) (hl : lv_has ls 3 [(0, .ref (ad 0)), (2, .int x2_)]) (hf : fX12_inBlock_b107 N  x2_ s0_ s1_ σ = some o) : W p l e (zRm (13)) s m args below meth c H locs 0 0 (zQi D cy shR ad ts lnR below args s o) (F0 m 107 ls [.int s0_, .int s1_, .ref (ad 25)]) := by
  have hx := X.1
  have hb := X.2.1
  unfold fX12_inBlock_b107 at hf
  obtain ⟨hin, hf⟩ := itx hf
  obtain ⟨h01, hf⟩ := itx hf
  have h01 := Decidable.not_not.mp h01
  refine as_X12_X12f50 X J hin h01 dX12_inBlock_107 (fun σ4 H locs eq J => ?_)
  have hf := bnd_eq eq hf
  clear eq
  refine lv_aload_n hx hb dX12_inBlock_108 rfl (lv_at hl 0 rfl) ?_
  refine gf_X12_83 X J dX12_inBlock_109 ?_
  refine lv_iload_n hx hb dX12_inBlock_112 rfl (lv_at hl 1 rfl) ?_
  obtain ⟨hin, hf⟩ := itx hf
  refine al_X12_X12f50 X J hin dX12_inBlock_113 ?_
  refine lv_if_eq hx hb dX12_inBlock_114 rfl (fun h => ?_) (fun h => ?_)
  · have hf := itp h hf
    refine lv_aload_n hx hb dX12_inBlock_124 rfl (lv_at hl 0 rfl) ?_
    obtain ⟨r5, σ6, hc, hf⟩ := obd_some hf
    refine zr_calli (As := []) (rest := []) X J 0 ho_R_X12.1 ho_R_X12.2.1 ho_R_X12.2.2 yy_X12_statement mw_methodLink_TinyCModel_354_TinyCModel_statement_I (d := 12) (zR_ok (by omega) (by decide)) hl.1 rfl (Nat.le_of_ble_eq_true rfl) (tX12_statement  hc) dX12_inBlock_125 (fun H locs J => ?_)
    exact zr_iret X J hf dX12_inBlock_128
  · have hf := itn h hf
    refine lv_aload_n hx hb dX12_inBlock_117 rfl (lv_at hl 0 rfl) ?_
    obtain ⟨r7, σ8, hc, hf⟩ := obd_some hf
    refine zr_calli (As := []) (rest := []) X J 0 ho_R_X12.1 ho_R_X12.2.1 ho_R_X12.2.2 yy_X12_tellLocal mw_methodLink_TinyCModel_351_TinyCModel_tellLocal_I (d := 11) (zR_ok (by omega) (by decide)) hl.1 rfl (Nat.le_of_ble_eq_true rfl) (tX12_tellLocal  hc) dX12_inBlock_118 (fun H locs J => ?_)
    refine lv_goto hx hb dX12_inBlock_121 rfl ?_
    exact zr_iret X J hf dX12_inBlock_128
set_option maxHeartbeats 4000000 in
theorem bX12_inBlock_106 {o : Int32 × zSt} (X : zX p s m args meth c D cy shR ad ts cX12_inBlock 3 (some .int) RX12)  {x2_ : Int32} {s0_ : Int32}  {σ : zSt} {H : Heap} {locs : List Loc} {ls : Array Slot} (J : zJ D cy shR ad lnR s σ H locs) (hl : lv_has ls 3 [(0, .ref (ad 0)), (2, .int x2_)]) (hf : fX12_inBlock_b106 N  x2_ s0_ σ = some o) : W p l e (zRm (13)) s m args below meth c H locs 0 0 (zQi D cy shR ad ts lnR below args s o) (F0 m 106 ls [.int s0_, .ref (ad 25)]) := by
  have hx := X.1
  have hb := X.2.1
  unfold fX12_inBlock_b106 at hf
  refine lv_iconst (v := (0 : Int32)) hx hb dX12_inBlock_106 (by decide) ?_
  exact bX12_inBlock_107 X   J (lv_sub hl [0, 1] rfl) hf
set_option maxHeartbeats 4000000 in
theorem tX12_inBlock {a1_ : Int32}  {σ u : zSt} {r : Int32} (hf : fX12_inBlock N a1_ σ = some (r, u)) : zMi l yX12_inBlock cX12_inBlock 3 (some .int) (13) D cy shR ad ts lnR [.ref (ad 0), .int a1_] σ r u := by
  refine zM_of (by decide) (Nat.le_of_ble_eq_true rfl) (fun p e s m args below meth c ls ha X J hl => ?_)
  have hx := X.1
  have hb := X.2.1
  have hl : lv_has ls 3 [(0, .ref (ad 0)), (1, .int a1_)] := hl
  generalize s.heap = H at J ⊢
  generalize ([] : List Loc) = locs at J ⊢
  show W p l e (zRm (13)) s m args below meth c H locs 0 0 (zQi D cy shR ad ts lnR below args s (r, u)) (F0 m 0 ls [])
  unfold fX12_inBlock at hf
  refine lv_aload_n hx hb dX12_inBlock_0 rfl (lv_at hl 0 rfl) ?_
  refine gf_X12_327 X J dX12_inBlock_1 ?_
  refine lv_iconst (v := (1 : Int32)) hx hb dX12_inBlock_4 (by decide) ?_
  refine lv_isub hx hb dX12_inBlock_5 ?_
  refine lv_topi (fun x1 eq => ?_)
  have hf := bnd_eq eq hf
  clear eq
  refine lv_istore_n hx hb dX12_inBlock_6 rfl hl (by decide) rfl (fun ls hl => ?_)
  have hl : lv_has ls 3 [(2, .int x1), (0, .ref (ad 0)), (1, .int a1_)] := hl
  refine lv_iload_n hx hb dX12_inBlock_7 rfl (lv_at hl 2 rfl) ?_
  refine lv_if_lt hx hb dX12_inBlock_8 rfl (fun h => ?_) (fun h => ?_)
  · have hf := itp h hf
    refine lv_aload_n hx hb dX12_inBlock_18 rfl (lv_at hl 1 rfl) ?_
    refine lv_bipush (v := (125 : Int32)) hx hb dX12_inBlock_19 (by decide) ?_
    obtain ⟨r2, σ3, hc, hf⟩ := obd_some hf
    refine zr_calli (As := [.int (125 : Int32)]) (rest := []) X J 0 ho_R_X12.1 ho_R_X12.2.1 ho_R_X12.2.2 yy_X12_isSign mw_methodLink_TinyCModel_247_TinyCModel_isSign_IZ (d := 1) (zR_ok (by omega) (by decide)) hl.1 rfl (Nat.le_of_ble_eq_true rfl) (tX12_isSign  hc) dX12_inBlock_21 (fun H locs J => ?_)
    refine lv_if_eq hx hb dX12_inBlock_24 rfl (fun h => ?_) (fun h => ?_)
    · have hf := itp h hf
      refine lv_aload_n hx hb dX12_inBlock_80 rfl (lv_at hl 1 rfl) ?_
      refine gf_X12_83 X J dX12_inBlock_81 ?_
      refine lv_iload_n hx hb dX12_inBlock_84 rfl (lv_at hl 0 rfl) ?_
      refine lv_aload_n hx hb dX12_inBlock_85 rfl (lv_at hl 1 rfl) ?_
      refine gf_X12_83 X J dX12_inBlock_86 ?_
      refine lv_iload_n hx hb dX12_inBlock_89 rfl (lv_at hl 0 rfl) ?_
      obtain ⟨hin, hf⟩ := itx hf
      refine al_X12_X12f50 X J hin dX12_inBlock_90 ?_
      refine lv_if_eq hx hb dX12_inBlock_91 rfl (fun h => ?_) (fun h => ?_)
      · have hf := itp h hf
        exact bX12_inBlock_106 X   J (lv_sub hl [1, 0] rfl) hf
      · have hf := itn h hf
        refine lv_aload_n hx hb dX12_inBlock_94 rfl (lv_at hl 1 rfl) ?_
        refine lv_iconst (v := (0 : Int32)) hx hb dX12_inBlock_95 (by decide) ?_
        obtain ⟨r9, σ10, hc, hf⟩ := obd_some hf
        refine zr_calli (As := [.int (0 : Int32)]) (rest := [.int x1, .ref (ad 25)]) X J 0 ho_R_X12.1 ho_R_X12.2.1 ho_R_X12.2.2 yy_X12_isWord mw_methodLink_TinyCModel_290_TinyCModel_isWord_IZ (d := 1) (zR_ok (by omega) (by decide)) hl.1 rfl (Nat.le_of_ble_eq_true rfl) (tX12_isWord  hc) dX12_inBlock_96 (fun H locs J => ?_)
        refine lv_if_eq hx hb dX12_inBlock_99 rfl (fun h => ?_) (fun h => ?_)
        · have hf := itp h hf
          exact bX12_inBlock_106 X   J (lv_sub hl [1, 0] rfl) hf
        · have hf := itn h hf
          refine lv_iconst (v := (1 : Int32)) hx hb dX12_inBlock_102 (by decide) ?_
          refine lv_goto hx hb dX12_inBlock_103 rfl ?_
          exact bX12_inBlock_107 X   J (lv_sub hl [1, 0] rfl) hf
    · have hf := itn h hf
      refine lv_aload_n hx hb dX12_inBlock_27 rfl (lv_at hl 1 rfl) ?_
      refine lv_bipush (v := (125 : Int32)) hx hb dX12_inBlock_28 (by decide) ?_
      obtain ⟨r11, σ12, hc, hf⟩ := obd_some hf
      refine zr_callv (As := [.int (125 : Int32)]) (rest := []) X J 0 ho_R_X12.1 ho_R_X12.2.1 ho_R_X12.2.2 yy_X12_closes mw_methodLink_TinyCModel_307_TinyCModel_closes_IV (d := 4) (zR_ok (by omega) (by decide)) hl.1 rfl (Nat.le_of_ble_eq_true rfl) (tX12_closes  hc) dX12_inBlock_30 (fun H locs J => ?_)
      refine lv_aload_n hx hb dX12_inBlock_33 rfl (lv_at hl 1 rfl) ?_
      refine lv_aload_n hx hb dX12_inBlock_34 rfl (lv_at hl 1 rfl) ?_
      refine gf_X12_90 X J dX12_inBlock_35 ?_
      refine lv_iload_n hx hb dX12_inBlock_38 rfl (lv_at hl 0 rfl) ?_
      obtain ⟨hin, hf⟩ := itx hf
      refine al_X12_X12f52 X J hin dX12_inBlock_39 ?_
      refine pf_X12_259 X J dX12_inBlock_40 (fun σ13 H locs eq J => ?_)
      have hf := bnd_eq eq hf
      clear eq
      refine lv_aload_n hx hb dX12_inBlock_43 rfl (lv_at hl 1 rfl) ?_
      refine lv_aload_n hx hb dX12_inBlock_44 rfl (lv_at hl 1 rfl) ?_
      refine gf_X12_93 X J dX12_inBlock_45 ?_
      refine lv_iload_n hx hb dX12_inBlock_48 rfl (lv_at hl 0 rfl) ?_
      obtain ⟨hin, hf⟩ := itx hf
      refine al_X12_X12f53 X J hin dX12_inBlock_49 ?_
      refine pf_X12_315 X J dX12_inBlock_50 (fun σ14 H locs eq J => ?_)
      have hf := bnd_eq eq hf
      clear eq
      refine lv_aload_n hx hb dX12_inBlock_53 rfl (lv_at hl 1 rfl) ?_
      refine lv_aload_n hx hb dX12_inBlock_54 rfl (lv_at hl 1 rfl) ?_
      refine gf_X12_87 X J dX12_inBlock_55 ?_
      refine lv_iload_n hx hb dX12_inBlock_58 rfl (lv_at hl 0 rfl) ?_
      obtain ⟨hin, hf⟩ := itx hf
      refine al_X12_X12f51 X J hin dX12_inBlock_59 ?_
      refine pf_X12_333 X J dX12_inBlock_60 (fun σ15 H locs eq J => ?_)
      have hf := bnd_eq eq hf
      clear eq
      refine lv_aload_n hx hb dX12_inBlock_63 rfl (lv_at hl 1 rfl) ?_
      refine lv_dup hx hb dX12_inBlock_64 rfl ?_
      refine gf_X12_327 X J dX12_inBlock_65 ?_
      refine lv_iconst (v := (1 : Int32)) hx hb dX12_inBlock_68 (by decide) ?_
      refine lv_isub hx hb dX12_inBlock_69 ?_
      refine pf_X12_327 X J dX12_inBlock_70 (fun σ16 H locs eq J => ?_)
      have hf := bnd_eq eq hf
      clear eq
      refine lv_aload_n hx hb dX12_inBlock_73 rfl (lv_at hl 1 rfl) ?_
      refine gf_X12_77 X J dX12_inBlock_74 ?_
      refine lv_iload_n hx hb dX12_inBlock_77 rfl (lv_at hl 0 rfl) ?_
      obtain ⟨hin, hf⟩ := itx hf
      refine al_X12_X12f48 X J hin dX12_inBlock_78 ?_
      exact zr_iret X J hf dX12_inBlock_79
  · have hf := itn h hf
    refine lv_aload_n hx hb dX12_inBlock_11 rfl (lv_at hl 1 rfl) ?_
    refine lv_iload_n hx hb dX12_inBlock_12 rfl (lv_at hl 2 rfl) ?_
    obtain ⟨r17, σ18, hc, hf⟩ := obd_some hf
    refine zr_callv (As := [.int a1_]) (rest := []) X J 0 ho_R_X12.1 ho_R_X12.2.1 ho_R_X12.2.2 yy_X12_append mw_methodLink_TinyCModel_348_TinyCModel_append_IV (d := 0) (zR_ok (by omega) (by decide)) hl.1 rfl (Nat.le_of_ble_eq_true rfl) (tX12_append  hc) dX12_inBlock_13 (fun H locs J => ?_)
    refine lv_iconst (v := (-1 : Int32)) hx hb dX12_inBlock_16 (by decide) ?_
    exact zr_iret X J hf dX12_inBlock_17
set_option maxHeartbeats 4000000 in
theorem bX12_inBranch_104 {o : Int32 × zSt} (X : zX p s m args meth c D cy shR ad ts cX12_inBranch 4 (some .int) RX12)  {x3_ : Int32}  {σ : zSt} {H : Heap} {locs : List Loc} {ls : Array Slot} (J : zJ D cy shR ad lnR s σ H locs) (hl : lv_has ls 4 [(0, .ref (ad 0)), (3, .int x3_)]) (hf : fX12_inBranch_b104 N  x3_ σ = some o) : W p l e (zRm (13)) s m args below meth c H locs 0 0 (zQi D cy shR ad ts lnR below args s o) (F0 m 104 ls []) := by
  have hx := X.1
  have hb := X.2.1
  unfold fX12_inBranch_b104 at hf
  refine lv_aload_n hx hb dX12_inBranch_104 rfl (lv_at hl 0 rfl) ?_
  refine lv_dup hx hb dX12_inBranch_105 rfl ?_
  refine gf_X12_268 X J dX12_inBranch_106 ?_
  refine lv_iconst (v := (1 : Int32)) hx hb dX12_inBranch_109 (by decide) ?_
  refine lv_isub hx hb dX12_inBranch_110 ?_
  refine pf_X12_268 X J dX12_inBranch_111 (fun σ4 H locs eq J => ?_)
  have hf := bnd_eq eq hf
  clear eq
  refine lv_aload_n hx hb dX12_inBranch_114 rfl (lv_at hl 0 rfl) ?_
  refine lv_dup hx hb dX12_inBranch_115 rfl ?_
  refine gf_X12_327 X J dX12_inBranch_116 ?_
  refine lv_iconst (v := (1 : Int32)) hx hb dX12_inBranch_119 (by decide) ?_
  refine lv_isub hx hb dX12_inBranch_120 ?_
  refine pf_X12_327 X J dX12_inBranch_121 (fun σ5 H locs eq J => ?_)
  have hf := bnd_eq eq hf
  clear eq
  refine lv_iload_n hx hb dX12_inBranch_124 rfl (lv_at hl 1 rfl) ?_
  exact zr_iret X J hf dX12_inBranch_125
set_option maxHeartbeats 4000000 in
theorem tX12_inBranch {a1_ : Int32}  {σ u : zSt} {r : Int32} (hf : fX12_inBranch N a1_ σ = some (r, u)) : zMi l yX12_inBranch cX12_inBranch 4 (some .int) (13) D cy shR ad ts lnR [.ref (ad 0), .int a1_] σ r u := by
  refine zM_of (by decide) (Nat.le_of_ble_eq_true rfl) (fun p e s m args below meth c ls ha X J hl => ?_)
  have hx := X.1
  have hb := X.2.1
  have hl : lv_has ls 4 [(0, .ref (ad 0)), (1, .int a1_)] := hl
  generalize s.heap = H at J ⊢
  generalize ([] : List Loc) = locs at J ⊢
  show W p l e (zRm (13)) s m args below meth c H locs 0 0 (zQi D cy shR ad ts lnR below args s (r, u)) (F0 m 0 ls [])
  unfold fX12_inBranch at hf
  refine lv_iload_n hx hb dX12_inBranch_0 rfl (lv_at hl 1 rfl) ?_
  refine lv_if_ge hx hb dX12_inBranch_1 rfl (fun h => ?_) (fun h => ?_)
  · have hf := itp h hf
    refine lv_aload_n hx hb dX12_inBranch_9 rfl (lv_at hl 0 rfl) ?_
    refine gf_X12_327 X J dX12_inBranch_10 ?_
    refine lv_iconst (v := (1 : Int32)) hx hb dX12_inBranch_13 (by decide) ?_
    refine lv_isub hx hb dX12_inBranch_14 ?_
    refine lv_topi (fun x1 eq => ?_)
    have hf := bnd_eq eq hf
    clear eq
    refine lv_istore_n hx hb dX12_inBranch_15 rfl hl (by decide) rfl (fun ls hl => ?_)
    have hl : lv_has ls 4 [(2, .int x1), (0, .ref (ad 0)), (1, .int a1_)] := hl
    refine lv_aload_n hx hb dX12_inBranch_16 rfl (lv_at hl 1 rfl) ?_
    refine gf_X12_77 X J dX12_inBranch_17 ?_
    refine lv_iload_n hx hb dX12_inBranch_20 rfl (lv_at hl 0 rfl) ?_
    obtain ⟨hin, hf⟩ := itx hf
    refine al_X12_X12f48 X J hin dX12_inBranch_21 ?_
    refine lv_topi (fun x2 eq => ?_)
    have hf := bnd_eq eq hf
    clear eq
    refine lv_istore_n hx hb dX12_inBranch_22 rfl hl (by decide) rfl (fun ls hl => ?_)
    have hl : lv_has ls 4 [(3, .int x2), (2, .int x1), (0, .ref (ad 0)), (1, .int a1_)] := hl
    refine lv_aload_n hx hb dX12_inBranch_23 rfl (lv_at hl 2 rfl) ?_
    refine gf_X12_74 X J dX12_inBranch_24 ?_
    refine lv_iload_n hx hb dX12_inBranch_27 rfl (lv_at hl 1 rfl) ?_
    obtain ⟨hin, hf⟩ := itx hf
    refine al_X12_X12f47 X J hin dX12_inBranch_28 ?_
    refine lv_iconst (v := (2 : Int32)) hx hb dX12_inBranch_29 (by decide) ?_
    refine lv_icmp_ne hx hb dX12_inBranch_30 rfl (fun h => ?_) (fun h => ?_)
    · have hf := itn h hf
      refine lv_aload_n hx hb dX12_inBranch_62 rfl (lv_at hl 2 rfl) ?_
      refine gf_X12_59 X J dX12_inBranch_63 ?_
      refine lv_iload_n hx hb dX12_inBranch_66 rfl (lv_at hl 0 rfl) ?_
      refine lv_iload_n hx hb dX12_inBranch_67 rfl (lv_at hl 3 rfl) ?_
      obtain ⟨hin, hf⟩ := itx hf
      refine as_X12_X12f41 X J hin dX12_inBranch_68 (fun σ3 H locs eq J => ?_)
      have hf := bnd_eq eq hf
      clear eq
      refine lv_aload_n hx hb dX12_inBranch_69 rfl (lv_at hl 2 rfl) ?_
      refine gf_X12_74 X J dX12_inBranch_70 ?_
      refine lv_iload_n hx hb dX12_inBranch_73 rfl (lv_at hl 1 rfl) ?_
      obtain ⟨hin, hf⟩ := itx hf
      refine al_X12_X12f47 X J hin dX12_inBranch_74 ?_
      refine lv_iconst (v := (1 : Int32)) hx hb dX12_inBranch_75 (by decide) ?_
      refine lv_icmp_ne hx hb dX12_inBranch_76 rfl (fun h => ?_) (fun h => ?_)
      · have hf := itn h hf
        exact bX12_inBranch_104 X   J (lv_sub hl [2, 0] rfl) hf
      · have hf := itp h hf
        refine lv_aload_n hx hb dX12_inBranch_79 rfl (lv_at hl 2 rfl) ?_
        refine lv_iconst (v := (2 : Int32)) hx hb dX12_inBranch_80 (by decide) ?_
        obtain ⟨r6, σ7, hc, hf⟩ := obd_some hf
        refine zr_calli (As := [.int (2 : Int32)]) (rest := []) X J 0 ho_R_X12.1 ho_R_X12.2.1 ho_R_X12.2.2 yy_X12_isWord mw_methodLink_TinyCModel_290_TinyCModel_isWord_IZ (d := 1) (zR_ok (by omega) (by decide)) hl.1 rfl (Nat.le_of_ble_eq_true rfl) (tX12_isWord  hc) dX12_inBranch_81 (fun H locs J => ?_)
        refine lv_if_eq hx hb dX12_inBranch_84 rfl (fun h => ?_) (fun h => ?_)
        · have hf := itp h hf
          exact bX12_inBranch_104 X   J (lv_sub hl [2, 0] rfl) hf
        · have hf := itn h hf
          refine lv_aload_n hx hb dX12_inBranch_87 rfl (lv_at hl 2 rfl) ?_
          obtain ⟨r8, σ9, hc, hf⟩ := obd_some hf
          refine zr_callv (As := []) (rest := []) X J 0 ho_R_X12.1 ho_R_X12.2.1 ho_R_X12.2.2 yy_X12_nests mw_methodLink_TinyCModel_271_TinyCModel_nests_V (d := 1) (zR_ok (by omega) (by decide)) hl.1 rfl (Nat.le_of_ble_eq_true rfl) (tX12_nests  hc) dX12_inBranch_88 (fun H locs J => ?_)
          refine lv_aload_n hx hb dX12_inBranch_91 rfl (lv_at hl 2 rfl) ?_
          obtain ⟨r10, σ11, hc, hf⟩ := obd_some hf
          refine zr_callv (As := []) (rest := []) X J 0 ho_R_X12.1 ho_R_X12.2.1 ho_R_X12.2.2 yy_X12_next mw_methodLink_TinyCModel_250_TinyCModel_next_V (d := 2) (zR_ok (by omega) (by decide)) hl.1 rfl (Nat.le_of_ble_eq_true rfl) (tX12_next  hc) dX12_inBranch_92 (fun H locs J => ?_)
          refine lv_aload_n hx hb dX12_inBranch_95 rfl (lv_at hl 2 rfl) ?_
          refine gf_X12_74 X J dX12_inBranch_96 ?_
          refine lv_iload_n hx hb dX12_inBranch_99 rfl (lv_at hl 1 rfl) ?_
          refine lv_iconst (v := (2 : Int32)) hx hb dX12_inBranch_100 (by decide) ?_
          obtain ⟨hin, hf⟩ := itx hf
          refine as_X12_X12f47 X J hin dX12_inBranch_101 (fun σ12 H locs eq J => ?_)
          have hf := bnd_eq eq hf
          clear eq
          refine lv_iconst (v := (-1 : Int32)) hx hb dX12_inBranch_102 (by decide) ?_
          exact zr_iret X J hf dX12_inBranch_103
    · have hf := itp h hf
      refine lv_aload_n hx hb dX12_inBranch_33 rfl (lv_at hl 2 rfl) ?_
      refine gf_X12_62 X J dX12_inBranch_34 ?_
      refine lv_iload_n hx hb dX12_inBranch_37 rfl (lv_at hl 0 rfl) ?_
      refine lv_iload_n hx hb dX12_inBranch_38 rfl (lv_at hl 3 rfl) ?_
      obtain ⟨hin, hf⟩ := itx hf
      refine as_X12_X12f42 X J hin dX12_inBranch_39 (fun σ13 H locs eq J => ?_)
      have hf := bnd_eq eq hf
      clear eq
      refine lv_aload_n hx hb dX12_inBranch_40 rfl (lv_at hl 2 rfl) ?_
      refine lv_dup hx hb dX12_inBranch_41 rfl ?_
      refine gf_X12_268 X J dX12_inBranch_42 ?_
      refine lv_iconst (v := (2 : Int32)) hx hb dX12_inBranch_45 (by decide) ?_
      refine lv_isub hx hb dX12_inBranch_46 ?_
      refine pf_X12_268 X J dX12_inBranch_47 (fun σ14 H locs eq J => ?_)
      have hf := bnd_eq eq hf
      clear eq
      refine lv_aload_n hx hb dX12_inBranch_50 rfl (lv_at hl 2 rfl) ?_
      refine lv_dup hx hb dX12_inBranch_51 rfl ?_
      refine gf_X12_327 X J dX12_inBranch_52 ?_
      refine lv_iconst (v := (1 : Int32)) hx hb dX12_inBranch_55 (by decide) ?_
      refine lv_isub hx hb dX12_inBranch_56 ?_
      refine pf_X12_327 X J dX12_inBranch_57 (fun σ15 H locs eq J => ?_)
      have hf := bnd_eq eq hf
      clear eq
      refine lv_iload_n hx hb dX12_inBranch_60 rfl (lv_at hl 0 rfl) ?_
      exact zr_iret X J hf dX12_inBranch_61
  · have hf := itn h hf
    refine lv_aload_n hx hb dX12_inBranch_4 rfl (lv_at hl 0 rfl) ?_
    obtain ⟨r16, σ17, hc, hf⟩ := obd_some hf
    refine zr_calli (As := []) (rest := []) X J 0 ho_R_X12.1 ho_R_X12.2.1 ho_R_X12.2.2 yy_X12_statement mw_methodLink_TinyCModel_354_TinyCModel_statement_I (d := 12) (zR_ok (by omega) (by decide)) hl.1 rfl (Nat.le_of_ble_eq_true rfl) (tX12_statement  hc) dX12_inBranch_5 (fun H locs J => ?_)
    exact zr_iret X J hf dX12_inBranch_8
set_option maxHeartbeats 4000000 in
theorem bX12_block_59 {o : Int32 × zSt} (X : zX p s m args meth c D cy shR ad ts cX12_block 3 (some .int) RX12) {k18 : Int32 → Int32 → zSt → Option (Int32 × zSt)} (hk18 : ∀ (x1_ : Int32) (x2_ : Int32) (σ : zSt) (H : Heap) (locs : List Loc) (ls : Array Slot), zJ D cy shR ad lnR s σ H locs → lv_has ls 3 [(0, .ref (ad 0)), (1, .int x1_), (2, .int x2_)] → k18 x1_ x2_ σ = some o → W p l e (zRm (14)) s m args below meth c H locs 0 0 (zQi D cy shR ad ts lnR below args s o) (F0 m 18 ls [])) {x1_ : Int32} {s0_ : Int32}  {σ : zSt} {H : Heap} {locs : List Loc} {ls : Array Slot} (J : zJ D cy shR ad lnR s σ H locs) (hl : lv_has ls 3 [(0, .ref (ad 0)), (1, .int x1_)]) (hf : fX12_block_b59 N k18 x1_ s0_ σ = some o) : W p l e (zRm (14)) s m args below meth c H locs 0 0 (zQi D cy shR ad ts lnR below args s o) (F0 m 59 ls [.int s0_]) := by
  have hx := X.1
  have hb := X.2.1
  unfold fX12_block_b59 at hf
  refine lv_istore_n hx hb dX12_block_59 rfl hl (by decide) rfl (fun ls hl => ?_)
  have hl : lv_has ls 3 [(2, .int s0_), (0, .ref (ad 0)), (1, .int x1_)] := hl
  refine lv_goto hx hb dX12_block_60 rfl ?_
  exact hk18 _ _ _ _ _ _ J (lv_sub hl [1, 2, 0] rfl) hf
set_option maxHeartbeats 4000000 in
theorem bX12_block_18 {o : Int32 × zSt} (X : zX p s m args meth c D cy shR ad ts cX12_block 3 (some .int) RX12)  : ∀ (n : Nat) (x1_ : Int32) (x2_ : Int32) (σ : zSt) (H : Heap) (locs : List Loc) (ls : Array Slot), zJ D cy shR ad lnR s σ H locs → lv_has ls 3 [(0, .ref (ad 0)), (1, .int x1_), (2, .int x2_)] → fX12_block_b18 N  n x1_ x2_ σ = some o → W p l e (zRm (14)) s m args below meth c H locs 0 0 (zQi D cy shR ad ts lnR below args s o) (F0 m 18 ls []) := by
  have hx := X.1
  have hb := X.2.1
  intro n
  induction n with
  | zero =>
    intro x1_ x2_ σ H locs ls J hl hf
    rw [fX12_block_b18] at hf
    cases hf
  | succ n ih =>
    intro x1_ x2_ σ H locs ls J hl hf
    rw [fX12_block_b18] at hf
    refine lv_aload_n hx hb dX12_block_18 rfl (lv_at hl 0 rfl) ?_
    obtain ⟨r6, σ7, hc, hf⟩ := obd_some hf
    refine zr_calli (As := []) (rest := []) X J 0 ho_R_X12.1 ho_R_X12.2.1 ho_R_X12.2.2 yy_X12_isWell mw_methodLink_TinyCModel_243_TinyCModel_isWell_Z (d := 0) (zR_ok (by omega) (by decide)) hl.1 rfl (Nat.le_of_ble_eq_true rfl) (tX12_isWell  hc) dX12_block_19 (fun H locs J => ?_)
    refine lv_if_eq hx hb dX12_block_22 rfl (fun h => ?_) (fun h => ?_)
    · have hf := itp h hf
      refine lv_iload_n hx hb dX12_block_63 rfl (lv_at hl 1 rfl) ?_
      exact zr_iret X J hf dX12_block_64
    · have hf := itn h hf
      refine lv_aload_n hx hb dX12_block_25 rfl (lv_at hl 0 rfl) ?_
      refine gf_X12_327 X J dX12_block_26 ?_
      refine lv_if_le hx hb dX12_block_29 rfl (fun h => ?_) (fun h => ?_)
      · have hf := itp h hf
        refine lv_iload_n hx hb dX12_block_63 rfl (lv_at hl 1 rfl) ?_
        exact zr_iret X J hf dX12_block_64
      · have hf := itn h hf
        refine lv_aload_n hx hb dX12_block_32 rfl (lv_at hl 0 rfl) ?_
        refine gf_X12_74 X J dX12_block_33 ?_
        refine lv_aload_n hx hb dX12_block_36 rfl (lv_at hl 0 rfl) ?_
        refine gf_X12_327 X J dX12_block_37 ?_
        refine lv_iconst (v := (1 : Int32)) hx hb dX12_block_40 (by decide) ?_
        refine lv_isub hx hb dX12_block_41 ?_
        obtain ⟨hin, hf⟩ := itx hf
        refine al_X12_X12f47 X J hin dX12_block_42 ?_
        refine lv_if_ne hx hb dX12_block_43 rfl (fun h => ?_) (fun h => ?_)
        · have hf := itn h hf
          refine lv_aload_n hx hb dX12_block_54 rfl (lv_at hl 0 rfl) ?_
          refine lv_iload_n hx hb dX12_block_55 rfl (lv_at hl 2 rfl) ?_
          obtain ⟨r8, σ9, hc, hf⟩ := obd_some hf
          refine zr_calli (As := [.int x2_]) (rest := []) X J 0 ho_R_X12.1 ho_R_X12.2.1 ho_R_X12.2.2 yy_X12_inBranch mw_methodLink_TinyCModel_345_TinyCModel_inBranch_II (d := 13) (zR_ok (by omega) (by decide)) hl.1 rfl (Nat.le_of_ble_eq_true rfl) (tX12_inBranch  hc) dX12_block_56 (fun H locs J => ?_)
          exact bX12_block_59 X ih  J (lv_sub hl [0, 1] rfl) hf
        · have hf := itp h hf
          refine lv_aload_n hx hb dX12_block_46 rfl (lv_at hl 0 rfl) ?_
          refine lv_iload_n hx hb dX12_block_47 rfl (lv_at hl 2 rfl) ?_
          obtain ⟨r10, σ11, hc, hf⟩ := obd_some hf
          refine zr_calli (As := [.int x2_]) (rest := []) X J 0 ho_R_X12.1 ho_R_X12.2.1 ho_R_X12.2.2 yy_X12_inBlock mw_methodLink_TinyCModel_342_TinyCModel_inBlock_II (d := 13) (zR_ok (by omega) (by decide)) hl.1 rfl (Nat.le_of_ble_eq_true rfl) (tX12_inBlock  hc) dX12_block_48 (fun H locs J => ?_)
          refine lv_goto hx hb dX12_block_51 rfl ?_
          exact bX12_block_59 X ih  J (lv_sub hl [0, 1] rfl) hf
set_option maxHeartbeats 4000000 in
theorem tX12_block   {σ u : zSt} {r : Int32} (hf : fX12_block N  σ = some (r, u)) : zMi l yX12_block cX12_block 3 (some .int) (14) D cy shR ad ts lnR [.ref (ad 0)] σ r u := by
  refine zM_of (by decide) (Nat.le_of_ble_eq_true rfl) (fun p e s m args below meth c ls ha X J hl => ?_)
  have hx := X.1
  have hb := X.2.1
  have hl : lv_has ls 3 [(0, .ref (ad 0))] := hl
  generalize s.heap = H at J ⊢
  generalize ([] : List Loc) = locs at J ⊢
  show W p l e (zRm (14)) s m args below meth c H locs 0 0 (zQi D cy shR ad ts lnR below args s (r, u)) (F0 m 0 ls [])
  unfold fX12_block at hf
  refine lv_aload_n hx hb dX12_block_0 rfl (lv_at hl 0 rfl) ?_
  refine lv_iconst (v := (0 : Int32)) hx hb dX12_block_1 (by decide) ?_
  refine pf_X12_327 X J dX12_block_2 (fun σ1 H locs eq J => ?_)
  have hf := bnd_eq eq hf
  clear eq
  refine lv_aload_n hx hb dX12_block_5 rfl (lv_at hl 0 rfl) ?_
  obtain ⟨r2, σ3, hc, hf⟩ := obd_some hf
  refine zr_callv (As := []) (rest := []) X J 0 ho_R_X12.1 ho_R_X12.2.1 ho_R_X12.2.2 yy_X12_beginBlock mw_methodLink_TinyCModel_339_TinyCModel_beginBlock_V (d := 4) (zR_ok (by omega) (by decide)) hl.1 rfl (Nat.le_of_ble_eq_true rfl) (tX12_beginBlock  hc) dX12_block_6 (fun H locs J => ?_)
  refine lv_aload_n hx hb dX12_block_9 rfl (lv_at hl 0 rfl) ?_
  refine gf_X12_77 X J dX12_block_10 ?_
  refine lv_iconst (v := (0 : Int32)) hx hb dX12_block_13 (by decide) ?_
  obtain ⟨hin, hf⟩ := itx hf
  refine al_X12_X12f48 X J hin dX12_block_14 ?_
  refine lv_topi (fun x4 eq => ?_)
  have hf := bnd_eq eq hf
  clear eq
  refine lv_istore_n hx hb dX12_block_15 rfl hl (by decide) rfl (fun ls hl => ?_)
  have hl : lv_has ls 3 [(1, .int x4), (0, .ref (ad 0))] := hl
  refine lv_iconst (v := (-1 : Int32)) hx hb dX12_block_16 (by decide) ?_
  refine lv_topi (fun x5 eq => ?_)
  have hf := bnd_eq eq hf
  clear eq
  refine lv_istore_n hx hb dX12_block_17 rfl hl (by decide) rfl (fun ls hl => ?_)
  have hl : lv_has ls 3 [(2, .int x5), (1, .int x4), (0, .ref (ad 0))] := hl
  exact bX12_block_18 X  N _ _ _ _ _ _ J (lv_sub hl [2, 1, 0] rfl) hf
set_option maxHeartbeats 4000000 in
theorem bX12_tellFunction_133 {o : Unit × zSt} (X : zX p s m args meth c D cy shR ad ts cX12_tellFunction 4 none RX12)  : ∀ (n : Nat) (x3_ : Int32) (σ : zSt) (H : Heap) (locs : List Loc) (ls : Array Slot), zJ D cy shR ad lnR s σ H locs → lv_has ls 4 [(0, .ref (ad 0)), (3, .int x3_)] → fX12_tellFunction_b133 N  n x3_ σ = some o → W p l e (zRm (15)) s m args below meth c H locs 0 0 (zQv D cy shR ad ts lnR below args s o) (F0 m 133 ls []) := by
  have hx := X.1
  have hb := X.2.1
  intro n
  induction n with
  | zero =>
    intro x3_ σ H locs ls J hl hf
    rw [fX12_tellFunction_b133] at hf
    cases hf
  | succ n ih =>
    intro x3_ σ H locs ls J hl hf
    rw [fX12_tellFunction_b133] at hf
    refine lv_iload_n hx hb dX12_tellFunction_133 rfl (lv_at hl 1 rfl) ?_
    refine lv_aload_n hx hb dX12_tellFunction_134 rfl (lv_at hl 0 rfl) ?_
    refine gf_X12_259 X J dX12_tellFunction_135 ?_
    refine lv_icmp_ge hx hb dX12_tellFunction_138 rfl (fun h => ?_) (fun h => ?_)
    · have hf := itp h hf
      refine lv_aload_n hx hb dX12_tellFunction_162 rfl (lv_at hl 0 rfl) ?_
      obtain ⟨r17, σ18, hc, hf⟩ := obd_some hf
      refine zr_calli (As := []) (rest := []) X J 0 ho_R_X12.1 ho_R_X12.2.1 ho_R_X12.2.2 yy_X12_isWell mw_methodLink_TinyCModel_243_TinyCModel_isWell_Z (d := 0) (zR_ok (by omega) (by decide)) hl.1 rfl (Nat.le_of_ble_eq_true rfl) (tX12_isWell  hc) dX12_tellFunction_163 (fun H locs J => ?_)
      refine lv_if_ne hx hb dX12_tellFunction_166 rfl (fun h => ?_) (fun h => ?_)
      · have hf := itn h hf
        refine lv_aload_n hx hb dX12_tellFunction_170 rfl (lv_at hl 0 rfl) ?_
        refine gf_X12_41 X J dX12_tellFunction_171 ?_
        refine lv_aload_n hx hb dX12_tellFunction_174 rfl (lv_at hl 0 rfl) ?_
        refine gf_X12_312 X J dX12_tellFunction_175 ?_
        refine lv_aload_n hx hb dX12_tellFunction_178 rfl (lv_at hl 0 rfl) ?_
        obtain ⟨r19, σ20, hc, hf⟩ := obd_some hf
        refine zr_calli (As := []) (rest := [.int (zI σ18 0 35), .ref (ad 11)]) X J 0 ho_R_X12.1 ho_R_X12.2.1 ho_R_X12.2.2 yy_X12_block mw_methodLink_TinyCModel_321_TinyCModel_block_I (d := 14) (zR_ok (by omega) (by decide)) hl.1 rfl (Nat.le_of_ble_eq_true rfl) (tX12_block  hc) dX12_tellFunction_179 (fun H locs J => ?_)
        obtain ⟨hin, hf⟩ := itx hf
        refine as_X12_X12f27 X J hin dX12_tellFunction_182 (fun σ21 H locs eq J => ?_)
        have hf := bnd_eq eq hf
        clear eq
        exact zr_vret X J hf dX12_tellFunction_183
      · have hf := itp h hf
        exact zr_vret X J hf dX12_tellFunction_169
    · have hf := itn h hf
      refine lv_aload_n hx hb dX12_tellFunction_141 rfl (lv_at hl 0 rfl) ?_
      refine gf_X12_50 X J dX12_tellFunction_142 ?_
      refine lv_iload_n hx hb dX12_tellFunction_145 rfl (lv_at hl 1 rfl) ?_
      refine lv_bipush (v := (-2 : Int32)) hx hb dX12_tellFunction_146 (by decide) ?_
      refine lv_aload_n hx hb dX12_tellFunction_148 rfl (lv_at hl 0 rfl) ?_
      refine gf_X12_259 X J dX12_tellFunction_149 ?_
      refine lv_isub hx hb dX12_tellFunction_152 ?_
      refine lv_iload_n hx hb dX12_tellFunction_153 rfl (lv_at hl 1 rfl) ?_
      refine lv_iadd hx hb dX12_tellFunction_154 ?_
      obtain ⟨hin, hf⟩ := itx hf
      refine as_X12_X12f32 X J hin dX12_tellFunction_155 (fun σ22 H locs eq J => ?_)
      have hf := bnd_eq eq hf
      clear eq
      obtain ⟨x23, eq⟩ : ∃ z, z = x3_ + (1 : Int32) := ⟨_, rfl⟩
      have hf := bnd_eq eq hf
      refine lv_iinc hx hb dX12_tellFunction_156 hl (k := 1) rfl (v := x23) (by rw [eq]; rfl) (by decide) rfl (fun ls hl => ?_)
      clear eq
      have hl : lv_has ls 4 [(3, .int x23), (0, .ref (ad 0))] := hl
      refine lv_goto hx hb dX12_tellFunction_159 rfl ?_
      exact ih _ _ _ _ _ J (lv_sub hl [1, 0] rfl) hf
set_option maxHeartbeats 4000000 in
theorem bX12_tellFunction_125 {o : Unit × zSt} (X : zX p s m args meth c D cy shR ad ts cX12_tellFunction 4 none RX12)    {σ : zSt} {H : Heap} {locs : List Loc} {ls : Array Slot} (J : zJ D cy shR ad lnR s σ H locs) (hl : lv_has ls 4 [(0, .ref (ad 0))]) (hf : fX12_tellFunction_b125 N   σ = some o) : W p l e (zRm (15)) s m args below meth c H locs 0 0 (zQv D cy shR ad ts lnR below args s o) (F0 m 125 ls []) := by
  have hx := X.1
  have hb := X.2.1
  unfold fX12_tellFunction_b125 at hf
  refine lv_aload_n hx hb dX12_tellFunction_125 rfl (lv_at hl 0 rfl) ?_
  refine lv_bipush (v := (41 : Int32)) hx hb dX12_tellFunction_126 (by decide) ?_
  obtain ⟨r14, σ15, hc, hf⟩ := obd_some hf
  refine zr_callv (As := [.int (41 : Int32)]) (rest := []) X J 0 ho_R_X12.1 ho_R_X12.2.1 ho_R_X12.2.2 yy_X12_closes mw_methodLink_TinyCModel_307_TinyCModel_closes_IV (d := 4) (zR_ok (by omega) (by decide)) hl.1 rfl (Nat.le_of_ble_eq_true rfl) (tX12_closes  hc) dX12_tellFunction_128 (fun H locs J => ?_)
  refine lv_iconst (v := (0 : Int32)) hx hb dX12_tellFunction_131 (by decide) ?_
  refine lv_topi (fun x16 eq => ?_)
  have hf := bnd_eq eq hf
  clear eq
  refine lv_istore_n hx hb dX12_tellFunction_132 rfl hl (by decide) rfl (fun ls hl => ?_)
  have hl : lv_has ls 4 [(3, .int x16), (0, .ref (ad 0))] := hl
  exact bX12_tellFunction_133 X  N _ _ _ _ _ J (lv_sub hl [1, 0] rfl) hf
set_option maxHeartbeats 4000000 in
theorem bX12_tellFunction_118 {o : Unit × zSt} (X : zX p s m args meth c D cy shR ad ts cX12_tellFunction 4 none RX12) {k84 : zSt → Option (Unit × zSt)} (hk84 : ∀  (σ : zSt) (H : Heap) (locs : List Loc) (ls : Array Slot), zJ D cy shR ad lnR s σ H locs → lv_has ls 4 [(0, .ref (ad 0))] → k84  σ = some o → W p l e (zRm (15)) s m args below meth c H locs 0 0 (zQv D cy shR ad ts lnR below args s o) (F0 m 84 ls []))   {σ : zSt} {H : Heap} {locs : List Loc} {ls : Array Slot} (J : zJ D cy shR ad lnR s σ H locs) (hl : lv_has ls 4 [(0, .ref (ad 0))]) (hf : fX12_tellFunction_b118 N k84  σ = some o) : W p l e (zRm (15)) s m args below meth c H locs 0 0 (zQv D cy shR ad ts lnR below args s o) (F0 m 118 ls []) := by
  have hx := X.1
  have hb := X.2.1
  unfold fX12_tellFunction_b118 at hf
  refine lv_aload_n hx hb dX12_tellFunction_118 rfl (lv_at hl 0 rfl) ?_
  obtain ⟨r26, σ27, hc, hf⟩ := obd_some hf
  refine zr_callv (As := []) (rest := []) X J 0 ho_R_X12.1 ho_R_X12.2.1 ho_R_X12.2.2 yy_X12_parameter mw_methodLink_TinyCModel_318_TinyCModel_parameter_V (d := 3) (zR_ok (by omega) (by decide)) hl.1 rfl (Nat.le_of_ble_eq_true rfl) (tX12_parameter  hc) dX12_tellFunction_119 (fun H locs J => ?_)
  refine lv_goto hx hb dX12_tellFunction_122 rfl ?_
  exact hk84 _ _ _ _ J (lv_sub hl [0] rfl) hf
set_option maxHeartbeats 4000000 in
theorem bX12_tellFunction_84 {o : Unit × zSt} (X : zX p s m args meth c D cy shR ad ts cX12_tellFunction 4 none RX12)  : ∀ (n : Nat)  (σ : zSt) (H : Heap) (locs : List Loc) (ls : Array Slot), zJ D cy shR ad lnR s σ H locs → lv_has ls 4 [(0, .ref (ad 0))] → fX12_tellFunction_b84 N  n  σ = some o → W p l e (zRm (15)) s m args below meth c H locs 0 0 (zQv D cy shR ad ts lnR below args s o) (F0 m 84 ls []) := by
  have hx := X.1
  have hb := X.2.1
  intro n
  induction n with
  | zero =>
    intro  σ H locs ls J hl hf
    rw [fX12_tellFunction_b84] at hf
    cases hf
  | succ n ih =>
    intro  σ H locs ls J hl hf
    rw [fX12_tellFunction_b84] at hf
    refine lv_aload_n hx hb dX12_tellFunction_84 rfl (lv_at hl 0 rfl) ?_
    obtain ⟨r12, σ13, hc, hf⟩ := obd_some hf
    refine zr_calli (As := []) (rest := []) X J 0 ho_R_X12.1 ho_R_X12.2.1 ho_R_X12.2.2 yy_X12_isWell mw_methodLink_TinyCModel_243_TinyCModel_isWell_Z (d := 0) (zR_ok (by omega) (by decide)) hl.1 rfl (Nat.le_of_ble_eq_true rfl) (tX12_isWell  hc) dX12_tellFunction_85 (fun H locs J => ?_)
    refine lv_if_eq hx hb dX12_tellFunction_88 rfl (fun h => ?_) (fun h => ?_)
    · have hf := itp h hf
      exact bX12_tellFunction_125 X   J (lv_sub hl [0] rfl) hf
    · have hf := itn h hf
      refine lv_aload_n hx hb dX12_tellFunction_91 rfl (lv_at hl 0 rfl) ?_
      refine lv_bipush (v := (41 : Int32)) hx hb dX12_tellFunction_92 (by decide) ?_
      obtain ⟨r24, σ25, hc, hf⟩ := obd_some hf
      refine zr_calli (As := [.int (41 : Int32)]) (rest := []) X J 0 ho_R_X12.1 ho_R_X12.2.1 ho_R_X12.2.2 yy_X12_isSign mw_methodLink_TinyCModel_247_TinyCModel_isSign_IZ (d := 1) (zR_ok (by omega) (by decide)) hl.1 rfl (Nat.le_of_ble_eq_true rfl) (tX12_isSign  hc) dX12_tellFunction_94 (fun H locs J => ?_)
      refine lv_if_ne hx hb dX12_tellFunction_97 rfl (fun h => ?_) (fun h => ?_)
      · have hf := itn h hf
        exact bX12_tellFunction_125 X   J (lv_sub hl [0] rfl) hf
      · have hf := itp h hf
        refine lv_aload_n hx hb dX12_tellFunction_100 rfl (lv_at hl 0 rfl) ?_
        refine gf_X12_38 X J dX12_tellFunction_101 ?_
        refine lv_aload_n hx hb dX12_tellFunction_104 rfl (lv_at hl 0 rfl) ?_
        refine gf_X12_312 X J dX12_tellFunction_105 ?_
        obtain ⟨hin, hf⟩ := itx hf
        refine al_X12_X12f26 X J hin dX12_tellFunction_108 ?_
        refine lv_if_le hx hb dX12_tellFunction_109 rfl (fun h => ?_) (fun h => ?_)
        · have hf := itp h hf
          exact bX12_tellFunction_118 X ih  J (lv_sub hl [0] rfl) hf
        · have hf := itn h hf
          refine lv_aload_n hx hb dX12_tellFunction_112 rfl (lv_at hl 0 rfl) ?_
          refine lv_bipush (v := (44 : Int32)) hx hb dX12_tellFunction_113 (by decide) ?_
          obtain ⟨r28, σ29, hc, hf⟩ := obd_some hf
          refine zr_callv (As := [.int (44 : Int32)]) (rest := []) X J 0 ho_R_X12.1 ho_R_X12.2.1 ho_R_X12.2.2 yy_X12_takes mw_methodLink_TinyCModel_274_TinyCModel_takes_IV (d := 3) (zR_ok (by omega) (by decide)) hl.1 rfl (Nat.le_of_ble_eq_true rfl) (tX12_takes  hc) dX12_tellFunction_115 (fun H locs J => ?_)
          exact bX12_tellFunction_118 X ih  J (lv_sub hl [0] rfl) hf
set_option maxHeartbeats 4000000 in
theorem tX12_tellFunction {a1_ : Int64}  {σ u : zSt} {r : Unit} (hf : fX12_tellFunction N a1_ σ = some (r, u)) : zMv l yX12_tellFunction cX12_tellFunction 4 none (15) D cy shR ad ts lnR [.ref (ad 0), .long a1_] σ u := by
  refine zM_of (by decide) (Nat.le_of_ble_eq_true rfl) (fun p e s m args below meth c ls ha X J hl => ?_)
  have hx := X.1
  have hb := X.2.1
  have hl : lv_has ls 4 [(0, .ref (ad 0)), (1, .long a1_)] := hl
  generalize s.heap = H at J ⊢
  generalize ([] : List Loc) = locs at J ⊢
  show W p l e (zRm (15)) s m args below meth c H locs 0 0 (zQv D cy shR ad ts lnR below args s (r, u)) (F0 m 0 ls [])
  unfold fX12_tellFunction at hf
  refine lv_aload_n hx hb dX12_tellFunction_0 rfl (lv_at hl 0 rfl) ?_
  refine lv_aload_n hx hb dX12_tellFunction_1 rfl (lv_at hl 0 rfl) ?_
  refine gf_X12_256 X J dX12_tellFunction_2 ?_
  refine pf_X12_312 X J dX12_tellFunction_5 (fun σ1 H locs eq J => ?_)
  have hf := bnd_eq eq hf
  clear eq
  refine lv_aload_n hx hb dX12_tellFunction_8 rfl (lv_at hl 0 rfl) ?_
  refine gf_X12_28 X J dX12_tellFunction_9 ?_
  refine lv_aload_n hx hb dX12_tellFunction_12 rfl (lv_at hl 0 rfl) ?_
  refine gf_X12_256 X J dX12_tellFunction_13 ?_
  refine lv_lload_n hx hb dX12_tellFunction_16 rfl (lv_at hl 1 rfl) ?_
  obtain ⟨hin, hf⟩ := itx hf
  refine as_X12_X12f23 X J hin dX12_tellFunction_17 (fun σ2 H locs eq J => ?_)
  have hf := bnd_eq eq hf
  clear eq
  refine lv_aload_n hx hb dX12_tellFunction_18 rfl (lv_at hl 0 rfl) ?_
  refine gf_X12_32 X J dX12_tellFunction_19 ?_
  refine lv_aload_n hx hb dX12_tellFunction_22 rfl (lv_at hl 0 rfl) ?_
  refine gf_X12_256 X J dX12_tellFunction_23 ?_
  refine lv_iconst (v := (2 : Int32)) hx hb dX12_tellFunction_26 (by decide) ?_
  obtain ⟨hin, hf⟩ := itx hf
  refine as_X12_X12f24 X J hin dX12_tellFunction_27 (fun σ3 H locs eq J => ?_)
  have hf := bnd_eq eq hf
  clear eq
  refine lv_aload_n hx hb dX12_tellFunction_28 rfl (lv_at hl 0 rfl) ?_
  refine gf_X12_38 X J dX12_tellFunction_29 ?_
  refine lv_aload_n hx hb dX12_tellFunction_32 rfl (lv_at hl 0 rfl) ?_
  refine gf_X12_256 X J dX12_tellFunction_33 ?_
  refine lv_iconst (v := (0 : Int32)) hx hb dX12_tellFunction_36 (by decide) ?_
  obtain ⟨hin, hf⟩ := itx hf
  refine as_X12_X12f26 X J hin dX12_tellFunction_37 (fun σ4 H locs eq J => ?_)
  have hf := bnd_eq eq hf
  clear eq
  refine lv_aload_n hx hb dX12_tellFunction_38 rfl (lv_at hl 0 rfl) ?_
  refine gf_X12_44 X J dX12_tellFunction_39 ?_
  refine lv_aload_n hx hb dX12_tellFunction_42 rfl (lv_at hl 0 rfl) ?_
  refine gf_X12_256 X J dX12_tellFunction_43 ?_
  refine lv_iconst (v := (0 : Int32)) hx hb dX12_tellFunction_46 (by decide) ?_
  obtain ⟨hin, hf⟩ := itx hf
  refine as_X12_X12f28 X J hin dX12_tellFunction_47 (fun σ5 H locs eq J => ?_)
  have hf := bnd_eq eq hf
  clear eq
  refine lv_aload_n hx hb dX12_tellFunction_48 rfl (lv_at hl 0 rfl) ?_
  refine gf_X12_41 X J dX12_tellFunction_49 ?_
  refine lv_aload_n hx hb dX12_tellFunction_52 rfl (lv_at hl 0 rfl) ?_
  refine gf_X12_256 X J dX12_tellFunction_53 ?_
  refine lv_iconst (v := (-1 : Int32)) hx hb dX12_tellFunction_56 (by decide) ?_
  obtain ⟨hin, hf⟩ := itx hf
  refine as_X12_X12f27 X J hin dX12_tellFunction_57 (fun σ6 H locs eq J => ?_)
  have hf := bnd_eq eq hf
  clear eq
  refine lv_aload_n hx hb dX12_tellFunction_58 rfl (lv_at hl 0 rfl) ?_
  refine lv_dup hx hb dX12_tellFunction_59 rfl ?_
  refine gf_X12_256 X J dX12_tellFunction_60 ?_
  refine lv_iconst (v := (1 : Int32)) hx hb dX12_tellFunction_63 (by decide) ?_
  refine lv_iadd hx hb dX12_tellFunction_64 ?_
  refine pf_X12_256 X J dX12_tellFunction_65 (fun σ7 H locs eq J => ?_)
  have hf := bnd_eq eq hf
  clear eq
  refine lv_aload_n hx hb dX12_tellFunction_68 rfl (lv_at hl 0 rfl) ?_
  refine lv_iconst (v := (0 : Int32)) hx hb dX12_tellFunction_69 (by decide) ?_
  refine pf_X12_259 X J dX12_tellFunction_70 (fun σ8 H locs eq J => ?_)
  have hf := bnd_eq eq hf
  clear eq
  refine lv_aload_n hx hb dX12_tellFunction_73 rfl (lv_at hl 0 rfl) ?_
  refine lv_iconst (v := (0 : Int32)) hx hb dX12_tellFunction_74 (by decide) ?_
  refine pf_X12_315 X J dX12_tellFunction_75 (fun σ9 H locs eq J => ?_)
  have hf := bnd_eq eq hf
  clear eq
  refine lv_aload_n hx hb dX12_tellFunction_78 rfl (lv_at hl 0 rfl) ?_
  refine lv_bipush (v := (40 : Int32)) hx hb dX12_tellFunction_79 (by decide) ?_
  obtain ⟨r10, σ11, hc, hf⟩ := obd_some hf
  refine zr_callv (As := [.int (40 : Int32)]) (rest := []) X J 0 ho_R_X12.1 ho_R_X12.2.1 ho_R_X12.2.2 yy_X12_opens mw_methodLink_TinyCModel_300_TinyCModel_opens_IV (d := 3) (zR_ok (by omega) (by decide)) hl.1 rfl (Nat.le_of_ble_eq_true rfl) (tX12_opens  hc) dX12_tellFunction_81 (fun H locs J => ?_)
  exact bX12_tellFunction_84 X  N _ _ _ _ J (lv_sub hl [0] rfl) hf
set_option maxHeartbeats 4000000 in
theorem bX12_arraySize_43 {o : Int32 × zSt} (X : zX p s m args meth c D cy shR ad ts cX12_arraySize 2 (some .int) RX12)    {σ : zSt} {H : Heap} {locs : List Loc} {ls : Array Slot} (J : zJ D cy shR ad lnR s σ H locs) (hl : lv_has ls 2 [(0, .ref (ad 0))]) (hf : fX12_arraySize_b43 N   σ = some o) : W p l e (zRm (3)) s m args below meth c H locs 0 0 (zQi D cy shR ad ts lnR below args s o) (F0 m 43 ls []) := by
  have hx := X.1
  have hb := X.2.1
  unfold fX12_arraySize_b43 at hf
  refine lv_aload_n hx hb dX12_arraySize_43 rfl (lv_at hl 0 rfl) ?_
  refine lv_bipush (v := (11 : Int32)) hx hb dX12_arraySize_44 (by decide) ?_
  refine lv_aload_n hx hb dX12_arraySize_46 rfl (lv_at hl 0 rfl) ?_
  refine gf_X12_199 X J dX12_arraySize_47 ?_
  obtain ⟨r3, σ4, hc, hf⟩ := obd_some hf
  refine zr_callv (As := [.int (11 : Int32), .int (zI σ 0 18)]) (rest := []) X J 0 ho_R_X12.1 ho_R_X12.2.1 ho_R_X12.2.2 yy_X12_fails mw_methodLink_TinyCModel_239_TinyCModel_fails_IIV (d := 0) (zR_ok (by omega) (by decide)) hl.1 rfl (Nat.le_of_ble_eq_true rfl) (tX12_fails  hc) dX12_arraySize_50 (fun H locs J => ?_)
  refine lv_iconst (v := (0 : Int32)) hx hb dX12_arraySize_53 (by decide) ?_
  exact zr_iret X J hf dX12_arraySize_54
set_option maxHeartbeats 4000000 in
theorem tX12_arraySize   {σ u : zSt} {r : Int32} (hf : fX12_arraySize N  σ = some (r, u)) : zMi l yX12_arraySize cX12_arraySize 2 (some .int) (3) D cy shR ad ts lnR [.ref (ad 0)] σ r u := by
  refine zM_of (by decide) (Nat.le_of_ble_eq_true rfl) (fun p e s m args below meth c ls ha X J hl => ?_)
  have hx := X.1
  have hb := X.2.1
  have hl : lv_has ls 2 [(0, .ref (ad 0))] := hl
  generalize s.heap = H at J ⊢
  generalize ([] : List Loc) = locs at J ⊢
  show W p l e (zRm (3)) s m args below meth c H locs 0 0 (zQi D cy shR ad ts lnR below args s (r, u)) (F0 m 0 ls [])
  unfold fX12_arraySize at hf
  refine lv_aload_n hx hb dX12_arraySize_0 rfl (lv_at hl 0 rfl) ?_
  obtain ⟨r1, σ2, hc, hf⟩ := obd_some hf
  refine zr_calli (As := []) (rest := []) X J 0 ho_R_X12.1 ho_R_X12.2.1 ho_R_X12.2.2 yy_X12_isWell mw_methodLink_TinyCModel_243_TinyCModel_isWell_Z (d := 0) (zR_ok (by omega) (by decide)) hl.1 rfl (Nat.le_of_ble_eq_true rfl) (tX12_isWell  hc) dX12_arraySize_1 (fun H locs J => ?_)
  refine lv_if_ne hx hb dX12_arraySize_4 rfl (fun h => ?_) (fun h => ?_)
  · have hf := itn h hf
    refine lv_aload_n hx hb dX12_arraySize_9 rfl (lv_at hl 0 rfl) ?_
    refine gf_X12_206 X J dX12_arraySize_10 ?_
    refine lv_iconst (v := (2 : Int32)) hx hb dX12_arraySize_13 (by decide) ?_
    refine lv_icmp_eq hx hb dX12_arraySize_14 rfl (fun h => ?_) (fun h => ?_)
    · have hf := itp h hf
      refine lv_aload_n hx hb dX12_arraySize_23 rfl (lv_at hl 0 rfl) ?_
      refine gf_X12_202 X J dX12_arraySize_24 ?_
      refine lv_lconst (v := (1 : Int64)) hx hb dX12_arraySize_27 (by decide) ?_
      refine W.lcmp hx hb dX12_arraySize_28 ?_
      refine lv_if_lt hx hb dX12_arraySize_29 rfl (fun h => ?_) (fun h => ?_)
      · have hf := itp h hf
        exact bX12_arraySize_43 X   J (lv_sub hl [0] rfl) hf
      · have hf := itn h hf
        refine lv_aload_n hx hb dX12_arraySize_32 rfl (lv_at hl 0 rfl) ?_
        refine gf_X12_202 X J dX12_arraySize_33 ?_
        refine lv_ldc2 (v := (1000 : Int64)) hx hb X.2.2.2.1 (X.2.2.2.2.1 _ mw_constantLong_TinyCModel_310) dX12_arraySize_36 ?_
        refine W.lcmp hx hb dX12_arraySize_39 ?_
        refine lv_if_le hx hb dX12_arraySize_40 rfl (fun h => ?_) (fun h => ?_)
        · have hf := itp h hf
          refine lv_aload_n hx hb dX12_arraySize_55 rfl (lv_at hl 0 rfl) ?_
          refine gf_X12_202 X J dX12_arraySize_56 ?_
          refine lv_l2i hx hb dX12_arraySize_59 rfl ?_
          refine lv_topi (fun x5 eq => ?_)
          have hf := bnd_eq eq hf
          clear eq
          refine lv_istore_n hx hb dX12_arraySize_60 rfl hl (by decide) rfl (fun ls hl => ?_)
          have hl : lv_has ls 2 [(1, .int x5), (0, .ref (ad 0))] := hl
          refine lv_aload_n hx hb dX12_arraySize_61 rfl (lv_at hl 1 rfl) ?_
          obtain ⟨r6, σ7, hc, hf⟩ := obd_some hf
          refine zr_callv (As := []) (rest := []) X J 0 ho_R_X12.1 ho_R_X12.2.1 ho_R_X12.2.2 yy_X12_next mw_methodLink_TinyCModel_250_TinyCModel_next_V (d := 2) (zR_ok (by omega) (by decide)) hl.1 rfl (Nat.le_of_ble_eq_true rfl) (tX12_next  hc) dX12_arraySize_62 (fun H locs J => ?_)
          refine lv_iload_n hx hb dX12_arraySize_65 rfl (lv_at hl 0 rfl) ?_
          exact zr_iret X J hf dX12_arraySize_66
        · have hf := itn h hf
          exact bX12_arraySize_43 X   J (lv_sub hl [0] rfl) hf
    · have hf := itn h hf
      refine lv_aload_n hx hb dX12_arraySize_17 rfl (lv_at hl 0 rfl) ?_
      obtain ⟨r8, σ9, hc, hf⟩ := obd_some hf
      refine zr_callv (As := []) (rest := []) X J 0 ho_R_X12.1 ho_R_X12.2.1 ho_R_X12.2.2 yy_X12_stray mw_methodLink_TinyCModel_253_TinyCModel_stray_V (d := 1) (zR_ok (by omega) (by decide)) hl.1 rfl (Nat.le_of_ble_eq_true rfl) (tX12_stray  hc) dX12_arraySize_18 (fun H locs J => ?_)
      refine lv_iconst (v := (0 : Int32)) hx hb dX12_arraySize_21 (by decide) ?_
      exact zr_iret X J hf dX12_arraySize_22
  · have hf := itp h hf
    refine lv_iconst (v := (0 : Int32)) hx hb dX12_arraySize_7 (by decide) ?_
    exact zr_iret X J hf dX12_arraySize_8
set_option maxHeartbeats 4000000 in
theorem bX12_declaration_155 {o : Unit × zSt} (X : zX p s m args meth c D cy shR ad ts cX12_declaration 6 none RX12)  {x4_ : Int32} {s0_ : Int32} {s1_ : Int32}  {σ : zSt} {H : Heap} {locs : List Loc} {ls : Array Slot} (J : zJ D cy shR ad lnR s σ H locs) (hl : lv_has ls 6 [(0, .ref (ad 0)), (4, .int x4_)]) (hf : fX12_declaration_b155 N  x4_ s0_ s1_ σ = some o) : W p l e (zRm (16)) s m args below meth c H locs 0 0 (zQv D cy shR ad ts lnR below args s o) (F0 m 155 ls [.int s0_, .int s1_, .ref (ad 8)]) := by
  have hx := X.1
  have hb := X.2.1
  unfold fX12_declaration_b155 at hf
  obtain ⟨hin, hf⟩ := itx hf
  refine as_X12_X12f24 X J hin dX12_declaration_155 (fun σ21 H locs eq J => ?_)
  have hf := bnd_eq eq hf
  clear eq
  refine lv_aload_n hx hb dX12_declaration_156 rfl (lv_at hl 0 rfl) ?_
  refine gf_X12_35 X J dX12_declaration_157 ?_
  refine lv_aload_n hx hb dX12_declaration_160 rfl (lv_at hl 0 rfl) ?_
  refine gf_X12_256 X J dX12_declaration_161 ?_
  refine lv_aload_n hx hb dX12_declaration_164 rfl (lv_at hl 0 rfl) ?_
  refine gf_X12_278 X J dX12_declaration_165 ?_
  obtain ⟨hin, hf⟩ := itx hf
  refine as_X12_X12f25 X J hin dX12_declaration_168 (fun σ22 H locs eq J => ?_)
  have hf := bnd_eq eq hf
  clear eq
  refine lv_aload_n hx hb dX12_declaration_169 rfl (lv_at hl 0 rfl) ?_
  refine gf_X12_38 X J dX12_declaration_170 ?_
  refine lv_aload_n hx hb dX12_declaration_173 rfl (lv_at hl 0 rfl) ?_
  refine gf_X12_256 X J dX12_declaration_174 ?_
  refine lv_iload hx hb dX12_declaration_177 (lv_at hl 1 rfl) ?_
  obtain ⟨hin, hf⟩ := itx hf
  refine as_X12_X12f26 X J hin dX12_declaration_179 (fun σ23 H locs eq J => ?_)
  have hf := bnd_eq eq hf
  clear eq
  refine lv_aload_n hx hb dX12_declaration_180 rfl (lv_at hl 0 rfl) ?_
  refine lv_dup hx hb dX12_declaration_181 rfl ?_
  refine gf_X12_278 X J dX12_declaration_182 ?_
  refine lv_iload hx hb dX12_declaration_185 (lv_at hl 1 rfl) ?_
  refine lv_iadd hx hb dX12_declaration_187 ?_
  refine pf_X12_278 X J dX12_declaration_188 (fun σ24 H locs eq J => ?_)
  have hf := bnd_eq eq hf
  clear eq
  refine lv_aload_n hx hb dX12_declaration_191 rfl (lv_at hl 0 rfl) ?_
  refine lv_dup hx hb dX12_declaration_192 rfl ?_
  refine gf_X12_256 X J dX12_declaration_193 ?_
  refine lv_iconst (v := (1 : Int32)) hx hb dX12_declaration_196 (by decide) ?_
  refine lv_iadd hx hb dX12_declaration_197 ?_
  refine pf_X12_256 X J dX12_declaration_198 (fun σ25 H locs eq J => ?_)
  have hf := bnd_eq eq hf
  clear eq
  exact zr_vret X J hf dX12_declaration_201
set_option maxHeartbeats 4000000 in
theorem bX12_declaration_113 {o : Unit × zSt} (X : zX p s m args meth c D cy shR ad ts cX12_declaration 6 none RX12)  {x1_ : Int64} {x4_ : Int32} {x5_ : Int32}  {σ : zSt} {H : Heap} {locs : List Loc} {ls : Array Slot} (J : zJ D cy shR ad lnR s σ H locs) (hl : lv_has ls 6 [(0, .ref (ad 0)), (1, .long x1_), (4, .int x4_), (5, .int x5_)]) (hf : fX12_declaration_b113 N  x1_ x4_ x5_ σ = some o) : W p l e (zRm (16)) s m args below meth c H locs 0 0 (zQv D cy shR ad ts lnR below args s o) (F0 m 113 ls []) := by
  have hx := X.1
  have hb := X.2.1
  unfold fX12_declaration_b113 at hf
  refine lv_aload_n hx hb dX12_declaration_113 rfl (lv_at hl 0 rfl) ?_
  refine lv_bipush (v := (59 : Int32)) hx hb dX12_declaration_114 (by decide) ?_
  obtain ⟨r16, σ17, hc, hf⟩ := obd_some hf
  refine zr_callv (As := [.int (59 : Int32)]) (rest := []) X J 0 ho_R_X12.1 ho_R_X12.2.1 ho_R_X12.2.2 yy_X12_takes mw_methodLink_TinyCModel_274_TinyCModel_takes_IV (d := 3) (zR_ok (by omega) (by decide)) hl.1 rfl (Nat.le_of_ble_eq_true rfl) (tX12_takes  hc) dX12_declaration_116 (fun H locs J => ?_)
  refine lv_aload_n hx hb dX12_declaration_119 rfl (lv_at hl 0 rfl) ?_
  obtain ⟨r18, σ19, hc, hf⟩ := obd_some hf
  refine zr_calli (As := []) (rest := []) X J 0 ho_R_X12.1 ho_R_X12.2.1 ho_R_X12.2.2 yy_X12_isWell mw_methodLink_TinyCModel_243_TinyCModel_isWell_Z (d := 0) (zR_ok (by omega) (by decide)) hl.1 rfl (Nat.le_of_ble_eq_true rfl) (tX12_isWell  hc) dX12_declaration_120 (fun H locs J => ?_)
  refine lv_if_ne hx hb dX12_declaration_123 rfl (fun h => ?_) (fun h => ?_)
  · have hf := itn h hf
    refine lv_aload_n hx hb dX12_declaration_127 rfl (lv_at hl 0 rfl) ?_
    refine gf_X12_28 X J dX12_declaration_128 ?_
    refine lv_aload_n hx hb dX12_declaration_131 rfl (lv_at hl 0 rfl) ?_
    refine gf_X12_256 X J dX12_declaration_132 ?_
    refine lv_lload_n hx hb dX12_declaration_135 rfl (lv_at hl 1 rfl) ?_
    obtain ⟨hin, hf⟩ := itx hf
    refine as_X12_X12f23 X J hin dX12_declaration_136 (fun σ20 H locs eq J => ?_)
    have hf := bnd_eq eq hf
    clear eq
    refine lv_aload_n hx hb dX12_declaration_137 rfl (lv_at hl 0 rfl) ?_
    refine gf_X12_32 X J dX12_declaration_138 ?_
    refine lv_aload_n hx hb dX12_declaration_141 rfl (lv_at hl 0 rfl) ?_
    refine gf_X12_256 X J dX12_declaration_142 ?_
    refine lv_iload hx hb dX12_declaration_145 (lv_at hl 3 rfl) ?_
    refine lv_if_eq hx hb dX12_declaration_147 rfl (fun h => ?_) (fun h => ?_)
    · have hf := itp h hf
      refine lv_iconst (v := (0 : Int32)) hx hb dX12_declaration_154 (by decide) ?_
      exact bX12_declaration_155 X   J (lv_sub hl [0, 2] rfl) hf
    · have hf := itn h hf
      refine lv_iconst (v := (1 : Int32)) hx hb dX12_declaration_150 (by decide) ?_
      refine lv_goto hx hb dX12_declaration_151 rfl ?_
      exact bX12_declaration_155 X   J (lv_sub hl [0, 2] rfl) hf
  · have hf := itp h hf
    exact zr_vret X J hf dX12_declaration_126
set_option maxHeartbeats 4000000 in
theorem tX12_declaration   {σ u : zSt} {r : Unit} (hf : fX12_declaration N  σ = some (r, u)) : zMv l yX12_declaration cX12_declaration 6 none (16) D cy shR ad ts lnR [.ref (ad 0)] σ u := by
  refine zM_of (by decide) (Nat.le_of_ble_eq_true rfl) (fun p e s m args below meth c ls ha X J hl => ?_)
  have hx := X.1
  have hb := X.2.1
  have hl : lv_has ls 6 [(0, .ref (ad 0))] := hl
  generalize s.heap = H at J ⊢
  generalize ([] : List Loc) = locs at J ⊢
  show W p l e (zRm (16)) s m args below meth c H locs 0 0 (zQv D cy shR ad ts lnR below args s (r, u)) (F0 m 0 ls [])
  unfold fX12_declaration at hf
  refine lv_aload_n hx hb dX12_declaration_0 rfl (lv_at hl 0 rfl) ?_
  refine lv_iconst (v := (0 : Int32)) hx hb dX12_declaration_1 (by decide) ?_
  obtain ⟨r1, σ2, hc, hf⟩ := obd_some hf
  refine zr_calli (As := [.int (0 : Int32)]) (rest := []) X J 0 ho_R_X12.1 ho_R_X12.2.1 ho_R_X12.2.2 yy_X12_isWord mw_methodLink_TinyCModel_290_TinyCModel_isWord_IZ (d := 1) (zR_ok (by omega) (by decide)) hl.1 rfl (Nat.le_of_ble_eq_true rfl) (tX12_isWord  hc) dX12_declaration_2 (fun H locs J => ?_)
  refine lv_if_ne hx hb dX12_declaration_5 rfl (fun h => ?_) (fun h => ?_)
  · have hf := itn h hf
    refine lv_aload_n hx hb dX12_declaration_13 rfl (lv_at hl 0 rfl) ?_
    obtain ⟨r3, σ4, hc, hf⟩ := obd_some hf
    refine zr_callv (As := []) (rest := []) X J 0 ho_R_X12.1 ho_R_X12.2.1 ho_R_X12.2.2 yy_X12_next mw_methodLink_TinyCModel_250_TinyCModel_next_V (d := 2) (zR_ok (by omega) (by decide)) hl.1 rfl (Nat.le_of_ble_eq_true rfl) (tX12_next  hc) dX12_declaration_14 (fun H locs J => ?_)
    refine lv_aload_n hx hb dX12_declaration_17 rfl (lv_at hl 0 rfl) ?_
    refine gf_X12_206 X J dX12_declaration_18 ?_
    refine lv_iconst (v := (1 : Int32)) hx hb dX12_declaration_21 (by decide) ?_
    refine lv_icmp_eq hx hb dX12_declaration_22 rfl (fun h => ?_) (fun h => ?_)
    · have hf := itp h hf
      refine lv_aload_n hx hb dX12_declaration_30 rfl (lv_at hl 0 rfl) ?_
      refine gf_X12_202 X J dX12_declaration_31 ?_
      refine lv_topl (fun x5 eq => ?_)
      have hf := bnd_eq eq hf
      clear eq
      refine lv_lstore_n hx hb dX12_declaration_34 rfl hl (by decide) rfl (fun ls hl => ?_)
      have hl : lv_has ls 6 [(1, .long x5), (0, .ref (ad 0))] := hl
      refine lv_aload_n hx hb dX12_declaration_35 rfl (lv_at hl 1 rfl) ?_
      refine gf_X12_199 X J dX12_declaration_36 ?_
      refine lv_topi (fun x6 eq => ?_)
      have hf := bnd_eq eq hf
      clear eq
      refine lv_istore_n hx hb dX12_declaration_39 rfl hl (by decide) rfl (fun ls hl => ?_)
      have hl : lv_has ls 6 [(3, .int x6), (1, .long x5), (0, .ref (ad 0))] := hl
      refine lv_aload_n hx hb dX12_declaration_40 rfl (lv_at hl 2 rfl) ?_
      refine lv_lload_n hx hb dX12_declaration_41 rfl (lv_at hl 1 rfl) ?_
      obtain ⟨r7, σ8, hc, hf⟩ := obd_some hf
      refine zr_calli (As := [.long x5]) (rest := []) X J 0 ho_R_X12.1 ho_R_X12.2.1 ho_R_X12.2.2 yy_X12_named mw_methodLink_TinyCModel_286_TinyCModel_named_JI (d := 0) (zR_ok (by omega) (by decide)) hl.1 rfl (Nat.le_of_ble_eq_true rfl) (tX12_named  hc) dX12_declaration_42 (fun H locs J => ?_)
      refine lv_if_lt hx hb dX12_declaration_45 rfl (fun h => ?_) (fun h => ?_)
      · have hf := itp h hf
        refine lv_aload_n hx hb dX12_declaration_55 rfl (lv_at hl 2 rfl) ?_
        obtain ⟨r9, σ10, hc, hf⟩ := obd_some hf
        refine zr_callv (As := []) (rest := []) X J 0 ho_R_X12.1 ho_R_X12.2.1 ho_R_X12.2.2 yy_X12_next mw_methodLink_TinyCModel_250_TinyCModel_next_V (d := 2) (zR_ok (by omega) (by decide)) hl.1 rfl (Nat.le_of_ble_eq_true rfl) (tX12_next  hc) dX12_declaration_56 (fun H locs J => ?_)
        refine lv_aload_n hx hb dX12_declaration_59 rfl (lv_at hl 2 rfl) ?_
        refine lv_bipush (v := (40 : Int32)) hx hb dX12_declaration_60 (by decide) ?_
        obtain ⟨r11, σ12, hc, hf⟩ := obd_some hf
        refine zr_calli (As := [.int (40 : Int32)]) (rest := []) X J 0 ho_R_X12.1 ho_R_X12.2.1 ho_R_X12.2.2 yy_X12_isSign mw_methodLink_TinyCModel_247_TinyCModel_isSign_IZ (d := 1) (zR_ok (by omega) (by decide)) hl.1 rfl (Nat.le_of_ble_eq_true rfl) (tX12_isSign  hc) dX12_declaration_62 (fun H locs J => ?_)
        refine lv_if_eq hx hb dX12_declaration_65 rfl (fun h => ?_) (fun h => ?_)
        · have hf := itp h hf
          refine lv_iconst (v := (1 : Int32)) hx hb dX12_declaration_79 (by decide) ?_
          refine lv_topi (fun x13 eq => ?_)
          have hf := bnd_eq eq hf
          clear eq
          refine lv_istore hx hb dX12_declaration_80 hl (by decide) rfl (fun ls hl => ?_)
          have hl : lv_has ls 6 [(4, .int x13), (3, .int x6), (1, .long x5), (0, .ref (ad 0))] := hl
          refine lv_aload_n hx hb dX12_declaration_82 rfl (lv_at hl 3 rfl) ?_
          refine lv_bipush (v := (91 : Int32)) hx hb dX12_declaration_83 (by decide) ?_
          obtain ⟨r14, σ15, hc, hf⟩ := obd_some hf
          refine zr_calli (As := [.int (91 : Int32)]) (rest := []) X J 0 ho_R_X12.1 ho_R_X12.2.1 ho_R_X12.2.2 yy_X12_isSign mw_methodLink_TinyCModel_247_TinyCModel_isSign_IZ (d := 1) (zR_ok (by omega) (by decide)) hl.1 rfl (Nat.le_of_ble_eq_true rfl) (tX12_isSign  hc) dX12_declaration_85 (fun H locs J => ?_)
          refine lv_istore hx hb dX12_declaration_88 hl (by decide) rfl (fun ls hl => ?_)
          have hl : lv_has ls 6 [(5, .int r14), (4, .int x13), (3, .int x6), (1, .long x5), (0, .ref (ad 0))] := hl
          refine lv_iload hx hb dX12_declaration_90 (lv_at hl 0 rfl) ?_
          refine lv_if_eq hx hb dX12_declaration_92 rfl (fun h => ?_) (fun h => ?_)
          · have hf := itp h hf
            exact bX12_declaration_113 X   J (lv_sub hl [4, 3, 1, 0] rfl) hf
          · have hf := itn h hf
            refine lv_aload_n hx hb dX12_declaration_95 rfl (lv_at hl 4 rfl) ?_
            refine lv_bipush (v := (91 : Int32)) hx hb dX12_declaration_96 (by decide) ?_
            obtain ⟨r26, σ27, hc, hf⟩ := obd_some hf
            refine zr_callv (As := [.int (91 : Int32)]) (rest := []) X J 0 ho_R_X12.1 ho_R_X12.2.1 ho_R_X12.2.2 yy_X12_opens mw_methodLink_TinyCModel_300_TinyCModel_opens_IV (d := 3) (zR_ok (by omega) (by decide)) hl.1 rfl (Nat.le_of_ble_eq_true rfl) (tX12_opens  hc) dX12_declaration_98 (fun H locs J => ?_)
            refine lv_aload_n hx hb dX12_declaration_101 rfl (lv_at hl 4 rfl) ?_
            obtain ⟨r28, σ29, hc, hf⟩ := obd_some hf
            refine zr_calli (As := []) (rest := []) X J 0 ho_R_X12.1 ho_R_X12.2.1 ho_R_X12.2.2 yy_X12_arraySize mw_methodLink_TinyCModel_303_TinyCModel_arraySize_I (d := 3) (zR_ok (by omega) (by decide)) hl.1 rfl (Nat.le_of_ble_eq_true rfl) (tX12_arraySize  hc) dX12_declaration_102 (fun H locs J => ?_)
            refine lv_istore hx hb dX12_declaration_105 hl (by decide) rfl (fun ls hl => ?_)
            have hl : lv_has ls 6 [(4, .int r28), (5, .int r14), (3, .int x6), (1, .long x5), (0, .ref (ad 0))] := hl
            refine lv_aload_n hx hb dX12_declaration_107 rfl (lv_at hl 4 rfl) ?_
            refine lv_bipush (v := (93 : Int32)) hx hb dX12_declaration_108 (by decide) ?_
            obtain ⟨r30, σ31, hc, hf⟩ := obd_some hf
            refine zr_callv (As := [.int (93 : Int32)]) (rest := []) X J 0 ho_R_X12.1 ho_R_X12.2.1 ho_R_X12.2.2 yy_X12_closes mw_methodLink_TinyCModel_307_TinyCModel_closes_IV (d := 4) (zR_ok (by omega) (by decide)) hl.1 rfl (Nat.le_of_ble_eq_true rfl) (tX12_closes  hc) dX12_declaration_110 (fun H locs J => ?_)
            exact bX12_declaration_113 X   J (lv_sub hl [4, 3, 0, 1] rfl) hf
        · have hf := itn h hf
          refine lv_aload_n hx hb dX12_declaration_68 rfl (lv_at hl 2 rfl) ?_
          refine lv_iload_n hx hb dX12_declaration_69 rfl (lv_at hl 0 rfl) ?_
          obtain ⟨r32, σ33, hc, hf⟩ := obd_some hf
          refine zr_callv (As := [.int x6]) (rest := []) X J 0 ho_R_X12.1 ho_R_X12.2.1 ho_R_X12.2.2 yy_X12_four mw_methodLink_TinyCModel_293_TinyCModel_four_IV (d := 1) (zR_ok (by omega) (by decide)) hl.1 rfl (Nat.le_of_ble_eq_true rfl) (tX12_four  hc) dX12_declaration_70 (fun H locs J => ?_)
          refine lv_aload_n hx hb dX12_declaration_73 rfl (lv_at hl 2 rfl) ?_
          refine lv_lload_n hx hb dX12_declaration_74 rfl (lv_at hl 1 rfl) ?_
          obtain ⟨r34, σ35, hc, hf⟩ := obd_some hf
          refine zr_callv (As := [.long x5]) (rest := []) X J 0 ho_R_X12.1 ho_R_X12.2.1 ho_R_X12.2.2 yy_X12_tellFunction mw_methodLink_TinyCModel_296_TinyCModel_tellFunction_JV (d := 15) (zR_ok (by omega) (by decide)) hl.1 rfl (Nat.le_of_ble_eq_true rfl) (tX12_tellFunction  hc) dX12_declaration_75 (fun H locs J => ?_)
          exact zr_vret X J hf dX12_declaration_78
      · have hf := itn h hf
        refine lv_aload_n hx hb dX12_declaration_48 rfl (lv_at hl 2 rfl) ?_
        refine lv_iconst (v := (4 : Int32)) hx hb dX12_declaration_49 (by decide) ?_
        refine lv_iload_n hx hb dX12_declaration_50 rfl (lv_at hl 0 rfl) ?_
        obtain ⟨r36, σ37, hc, hf⟩ := obd_some hf
        refine zr_callv (As := [.int (4 : Int32), .int x6]) (rest := []) X J 0 ho_R_X12.1 ho_R_X12.2.1 ho_R_X12.2.2 yy_X12_fails mw_methodLink_TinyCModel_239_TinyCModel_fails_IIV (d := 0) (zR_ok (by omega) (by decide)) hl.1 rfl (Nat.le_of_ble_eq_true rfl) (tX12_fails  hc) dX12_declaration_51 (fun H locs J => ?_)
        exact zr_vret X J hf dX12_declaration_54
    · have hf := itn h hf
      refine lv_aload_n hx hb dX12_declaration_25 rfl (lv_at hl 0 rfl) ?_
      obtain ⟨r38, σ39, hc, hf⟩ := obd_some hf
      refine zr_callv (As := []) (rest := []) X J 0 ho_R_X12.1 ho_R_X12.2.1 ho_R_X12.2.2 yy_X12_stray mw_methodLink_TinyCModel_253_TinyCModel_stray_V (d := 1) (zR_ok (by omega) (by decide)) hl.1 rfl (Nat.le_of_ble_eq_true rfl) (tX12_stray  hc) dX12_declaration_26 (fun H locs J => ?_)
      exact zr_vret X J hf dX12_declaration_29
  · have hf := itp h hf
    refine lv_aload_n hx hb dX12_declaration_8 rfl (lv_at hl 0 rfl) ?_
    obtain ⟨r40, σ41, hc, hf⟩ := obd_some hf
    refine zr_callv (As := []) (rest := []) X J 0 ho_R_X12.1 ho_R_X12.2.1 ho_R_X12.2.2 yy_X12_stray mw_methodLink_TinyCModel_253_TinyCModel_stray_V (d := 1) (zR_ok (by omega) (by decide)) hl.1 rfl (Nat.le_of_ble_eq_true rfl) (tX12_stray  hc) dX12_declaration_9 (fun H locs J => ?_)
    exact zr_vret X J hf dX12_declaration_12
set_option maxHeartbeats 4000000 in
theorem bX12_read_98 {o : Unit × zSt} (X : zX p s m args meth c D cy shR ad ts cX12_read 2 none RX12)    {σ : zSt} {H : Heap} {locs : List Loc} {ls : Array Slot} (J : zJ D cy shR ad lnR s σ H locs) (hl : lv_has ls 2 [(0, .ref (ad 0))]) (hf : fX12_read_b98 N   σ = some o) : W p l e (zRm (17)) s m args below meth c H locs 0 0 (zQv D cy shR ad ts lnR below args s o) (F0 m 98 ls []) := by
  have hx := X.1
  have hb := X.2.1
  unfold fX12_read_b98 at hf
  refine lv_aload_n hx hb dX12_read_98 rfl (lv_at hl 0 rfl) ?_
  refine lv_bipush (v := (7 : Int32)) hx hb dX12_read_99 (by decide) ?_
  refine lv_aload_n hx hb dX12_read_101 rfl (lv_at hl 0 rfl) ?_
  refine gf_X12_193 X J dX12_read_102 ?_
  obtain ⟨r16, σ17, hc, hf⟩ := obd_some hf
  refine zr_callv (As := [.int (7 : Int32), .int (zI σ 0 16)]) (rest := []) X J 0 ho_R_X12.1 ho_R_X12.2.1 ho_R_X12.2.2 yy_X12_fails mw_methodLink_TinyCModel_239_TinyCModel_fails_IIV (d := 0) (zR_ok (by omega) (by decide)) hl.1 rfl (Nat.le_of_ble_eq_true rfl) (tX12_fails  hc) dX12_read_105 (fun H locs J => ?_)
  exact zr_vret X J hf dX12_read_108
set_option maxHeartbeats 4000000 in
theorem bX12_read_60 {o : Unit × zSt} (X : zX p s m args meth c D cy shR ad ts cX12_read 2 none RX12)    {σ : zSt} {H : Heap} {locs : List Loc} {ls : Array Slot} (J : zJ D cy shR ad lnR s σ H locs) (hl : lv_has ls 2 [(0, .ref (ad 0))]) (hf : fX12_read_b60 N   σ = some o) : W p l e (zRm (17)) s m args below meth c H locs 0 0 (zQv D cy shR ad ts lnR below args s o) (F0 m 60 ls []) := by
  have hx := X.1
  have hb := X.2.1
  unfold fX12_read_b60 at hf
  refine lv_aload_n hx hb dX12_read_60 rfl (lv_at hl 0 rfl) ?_
  refine lv_ldc2 (v := (1835100526 : Int64)) hx hb X.2.2.2.1 (X.2.2.2.2.1 _ mw_constantLong_TinyCModel_284) dX12_read_61 ?_
  obtain ⟨r12, σ13, hc, hf⟩ := obd_some hf
  refine zr_calli (As := [.long (1835100526 : Int64)]) (rest := []) X J 0 ho_R_X12.1 ho_R_X12.2.1 ho_R_X12.2.2 yy_X12_named mw_methodLink_TinyCModel_286_TinyCModel_named_JI (d := 0) (zR_ok (by omega) (by decide)) hl.1 rfl (Nat.le_of_ble_eq_true rfl) (tX12_named  hc) dX12_read_64 (fun H locs J => ?_)
  refine lv_istore_n hx hb dX12_read_67 rfl hl (by decide) rfl (fun ls hl => ?_)
  have hl : lv_has ls 2 [(1, .int r12), (0, .ref (ad 0))] := hl
  refine lv_aload_n hx hb dX12_read_68 rfl (lv_at hl 1 rfl) ?_
  obtain ⟨r14, σ15, hc, hf⟩ := obd_some hf
  refine zr_calli (As := []) (rest := []) X J 0 ho_R_X12.1 ho_R_X12.2.1 ho_R_X12.2.2 yy_X12_isWell mw_methodLink_TinyCModel_243_TinyCModel_isWell_Z (d := 0) (zR_ok (by omega) (by decide)) hl.1 rfl (Nat.le_of_ble_eq_true rfl) (tX12_isWell  hc) dX12_read_69 (fun H locs J => ?_)
  refine lv_if_eq hx hb dX12_read_72 rfl (fun h => ?_) (fun h => ?_)
  · have hf := itp h hf
    exact zr_vret X J hf dX12_read_108
  · have hf := itn h hf
    refine lv_iload_n hx hb dX12_read_75 rfl (lv_at hl 0 rfl) ?_
    refine lv_if_lt hx hb dX12_read_76 rfl (fun h => ?_) (fun h => ?_)
    · have hf := itp h hf
      exact bX12_read_98 X   J (lv_sub hl [1] rfl) hf
    · have hf := itn h hf
      refine lv_aload_n hx hb dX12_read_79 rfl (lv_at hl 1 rfl) ?_
      refine gf_X12_32 X J dX12_read_80 ?_
      refine lv_iload_n hx hb dX12_read_83 rfl (lv_at hl 0 rfl) ?_
      obtain ⟨hin, hf⟩ := itx hf
      refine al_X12_X12f24 X J hin dX12_read_84 ?_
      refine lv_iconst (v := (2 : Int32)) hx hb dX12_read_85 (by decide) ?_
      refine lv_icmp_ne hx hb dX12_read_86 rfl (fun h => ?_) (fun h => ?_)
      · have hf := itn h hf
        exact bX12_read_98 X   J (lv_sub hl [1] rfl) hf
      · have hf := itp h hf
        refine lv_aload_n hx hb dX12_read_89 rfl (lv_at hl 1 rfl) ?_
        refine gf_X12_38 X J dX12_read_90 ?_
        refine lv_iload_n hx hb dX12_read_93 rfl (lv_at hl 0 rfl) ?_
        obtain ⟨hin, hf⟩ := itx hf
        refine al_X12_X12f26 X J hin dX12_read_94 ?_
        refine lv_if_eq hx hb dX12_read_95 rfl (fun h => ?_) (fun h => ?_)
        · have hf := itp h hf
          exact zr_vret X J hf dX12_read_108
        · have hf := itn h hf
          exact bX12_read_98 X   J (lv_sub hl [1] rfl) hf
set_option maxHeartbeats 4000000 in
theorem bX12_read_39 {o : Unit × zSt} (X : zX p s m args meth c D cy shR ad ts cX12_read 2 none RX12)  : ∀ (n : Nat)  (σ : zSt) (H : Heap) (locs : List Loc) (ls : Array Slot), zJ D cy shR ad lnR s σ H locs → lv_has ls 2 [(0, .ref (ad 0))] → fX12_read_b39 N  n  σ = some o → W p l e (zRm (17)) s m args below meth c H locs 0 0 (zQv D cy shR ad ts lnR below args s o) (F0 m 39 ls []) := by
  have hx := X.1
  have hb := X.2.1
  intro n
  induction n with
  | zero =>
    intro  σ H locs ls J hl hf
    rw [fX12_read_b39] at hf
    cases hf
  | succ n ih =>
    intro  σ H locs ls J hl hf
    rw [fX12_read_b39] at hf
    refine lv_aload_n hx hb dX12_read_39 rfl (lv_at hl 0 rfl) ?_
    obtain ⟨r10, σ11, hc, hf⟩ := obd_some hf
    refine zr_calli (As := []) (rest := []) X J 0 ho_R_X12.1 ho_R_X12.2.1 ho_R_X12.2.2 yy_X12_isWell mw_methodLink_TinyCModel_243_TinyCModel_isWell_Z (d := 0) (zR_ok (by omega) (by decide)) hl.1 rfl (Nat.le_of_ble_eq_true rfl) (tX12_isWell  hc) dX12_read_40 (fun H locs J => ?_)
    refine lv_if_eq hx hb dX12_read_43 rfl (fun h => ?_) (fun h => ?_)
    · have hf := itp h hf
      exact bX12_read_60 X   J (lv_sub hl [0] rfl) hf
    · have hf := itn h hf
      refine lv_aload_n hx hb dX12_read_46 rfl (lv_at hl 0 rfl) ?_
      refine gf_X12_206 X J dX12_read_47 ?_
      refine lv_if_eq hx hb dX12_read_50 rfl (fun h => ?_) (fun h => ?_)
      · have hf := itp h hf
        exact bX12_read_60 X   J (lv_sub hl [0] rfl) hf
      · have hf := itn h hf
        refine lv_aload_n hx hb dX12_read_53 rfl (lv_at hl 0 rfl) ?_
        obtain ⟨r18, σ19, hc, hf⟩ := obd_some hf
        refine zr_callv (As := []) (rest := []) X J 0 ho_R_X12.1 ho_R_X12.2.1 ho_R_X12.2.2 yy_X12_declaration mw_methodLink_TinyCModel_281_TinyCModel_declaration_V (d := 16) (zR_ok (by omega) (by decide)) hl.1 rfl (Nat.le_of_ble_eq_true rfl) (tX12_declaration  hc) dX12_read_54 (fun H locs J => ?_)
        refine lv_goto hx hb dX12_read_57 rfl ?_
        exact ih _ _ _ _ J (lv_sub hl [0] rfl) hf
set_option maxHeartbeats 4000000 in
theorem tX12_read   {σ u : zSt} {r : Unit} (hf : fX12_read N  σ = some (r, u)) : zMv l yX12_read cX12_read 2 none (17) D cy shR ad ts lnR [.ref (ad 0)] σ u := by
  refine zM_of (by decide) (Nat.le_of_ble_eq_true rfl) (fun p e s m args below meth c ls ha X J hl => ?_)
  have hx := X.1
  have hb := X.2.1
  have hl : lv_has ls 2 [(0, .ref (ad 0))] := hl
  generalize s.heap = H at J ⊢
  generalize ([] : List Loc) = locs at J ⊢
  show W p l e (zRm (17)) s m args below meth c H locs 0 0 (zQv D cy shR ad ts lnR below args s (r, u)) (F0 m 0 ls [])
  unfold fX12_read at hf
  refine lv_aload_n hx hb dX12_read_0 rfl (lv_at hl 0 rfl) ?_
  refine lv_iconst (v := (0 : Int32)) hx hb dX12_read_1 (by decide) ?_
  refine pf_X12_236 X J dX12_read_2 (fun σ1 H locs eq J => ?_)
  have hf := bnd_eq eq hf
  clear eq
  refine lv_aload_n hx hb dX12_read_5 rfl (lv_at hl 0 rfl) ?_
  refine lv_iconst (v := (0 : Int32)) hx hb dX12_read_6 (by decide) ?_
  refine pf_X12_196 X J dX12_read_7 (fun σ2 H locs eq J => ?_)
  have hf := bnd_eq eq hf
  clear eq
  refine lv_aload_n hx hb dX12_read_10 rfl (lv_at hl 0 rfl) ?_
  refine lv_iconst (v := (0 : Int32)) hx hb dX12_read_11 (by decide) ?_
  refine pf_X12_256 X J dX12_read_12 (fun σ3 H locs eq J => ?_)
  have hf := bnd_eq eq hf
  clear eq
  refine lv_aload_n hx hb dX12_read_15 rfl (lv_at hl 0 rfl) ?_
  refine lv_iconst (v := (0 : Int32)) hx hb dX12_read_16 (by decide) ?_
  refine pf_X12_278 X J dX12_read_17 (fun σ4 H locs eq J => ?_)
  have hf := bnd_eq eq hf
  clear eq
  refine lv_aload_n hx hb dX12_read_20 rfl (lv_at hl 0 rfl) ?_
  refine lv_iconst (v := (0 : Int32)) hx hb dX12_read_21 (by decide) ?_
  refine pf_X12_262 X J dX12_read_22 (fun σ5 H locs eq J => ?_)
  have hf := bnd_eq eq hf
  clear eq
  refine lv_aload_n hx hb dX12_read_25 rfl (lv_at hl 0 rfl) ?_
  refine lv_iconst (v := (0 : Int32)) hx hb dX12_read_26 (by decide) ?_
  refine pf_X12_265 X J dX12_read_27 (fun σ6 H locs eq J => ?_)
  have hf := bnd_eq eq hf
  clear eq
  refine lv_aload_n hx hb dX12_read_30 rfl (lv_at hl 0 rfl) ?_
  refine lv_iconst (v := (0 : Int32)) hx hb dX12_read_31 (by decide) ?_
  refine pf_X12_268 X J dX12_read_32 (fun σ7 H locs eq J => ?_)
  have hf := bnd_eq eq hf
  clear eq
  refine lv_aload_n hx hb dX12_read_35 rfl (lv_at hl 0 rfl) ?_
  obtain ⟨r8, σ9, hc, hf⟩ := obd_some hf
  refine zr_callv (As := []) (rest := []) X J 0 ho_R_X12.1 ho_R_X12.2.1 ho_R_X12.2.2 yy_X12_next mw_methodLink_TinyCModel_250_TinyCModel_next_V (d := 2) (zR_ok (by omega) (by decide)) hl.1 rfl (Nat.le_of_ble_eq_true rfl) (tX12_next  hc) dX12_read_36 (fun H locs J => ?_)
  exact bX12_read_39 X  N _ _ _ _ J (lv_sub hl [0] rfl) hf
end
