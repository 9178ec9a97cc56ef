section
variable {p : Program} {l : Launch} {e : Env} {s : State} {m : MethodId} {args : Array Value} {below : List Frame} {meth : Method} {c : Code} {D : va_G} {cy : Nat → ClassId} {ad ts : Nat → Nat} {N : Nat}
set_option maxHeartbeats 4000000 in
theorem bX12_four_27 {o : Unit × zSt} (X : zX p s m args meth c D cy shR ad ts cX12_four 2 none RX12)    {σ : zSt} {H : Heap} {locs : List Loc} {ls : Array Slot} (J : zJ D cy shR ad lnR s σ H locs) (hl : lv_has ls 2 [(0, .ref (ad 0))]) (hf : fX12_four_b27 N   σ = some o) : W p l e (zRm (1)) s m args below meth c H locs 0 0 (zQv D cy shR ad ts lnR below args s o) (F0 m 27 ls []) := by
  have hx := X.1
  have hb := X.2.1
  unfold fX12_four_b27 at hf
  refine lv_aload_n hx hb dX12_four_27 rfl (lv_at hl 0 rfl) ?_
  refine lv_dup hx hb dX12_four_28 rfl ?_
  refine gf_X12_265 X J dX12_four_29 ?_
  refine lv_iconst (v := (4 : Int32)) hx hb dX12_four_32 (by decide) ?_
  refine lv_iadd hx hb dX12_four_33 ?_
  refine pf_X12_265 X J dX12_four_34 (fun σ3 H locs eq J => ?_)
  have hf := bnd_eq eq hf
  clear eq
  exact zr_vret X J hf dX12_four_37
set_option maxHeartbeats 4000000 in
theorem tX12_four {a1_ : Int32}  {σ u : zSt} {r : Unit} (hf : fX12_four N a1_ σ = some (r, u)) : zMv l yX12_four cX12_four 2 none (1) D cy shR ad ts lnR [.ref (ad 0), .int a1_] σ u := by
  refine zM_of (by decide) (Nat.le_of_ble_eq_true rfl) (fun p e s m args below meth c ls ha X J hl => ?_)
  have hx := X.1
  have hb := X.2.1
  have hl : lv_has ls 2 [(0, .ref (ad 0)), (1, .int a1_)] := hl
  generalize s.heap = H at J ⊢
  generalize ([] : List Loc) = locs at J ⊢
  show W p l e (zRm (1)) s m args below meth c H locs 0 0 (zQv D cy shR ad ts lnR below args s (r, u)) (F0 m 0 ls [])
  unfold fX12_four at hf
  refine lv_aload_n hx hb dX12_four_0 rfl (lv_at hl 0 rfl) ?_
  obtain ⟨r1, σ2, hc, hf⟩ := obd_some hf
  refine zr_calli (As := []) (rest := []) X J 0 ho_R_X12.1 ho_R_X12.2.1 ho_R_X12.2.2 yy_X12_isWell mw_methodLink_TinyCModel_243_TinyCModel_isWell_Z (d := 0) (zR_ok (by omega) (by decide)) hl.1 rfl (Nat.le_of_ble_eq_true rfl) (tX12_isWell  hc) dX12_four_1 (fun H locs J => ?_)
  refine lv_if_eq hx hb dX12_four_4 rfl (fun h => ?_) (fun h => ?_)
  · have hf := itp h hf
    exact bX12_four_27 X   J (lv_sub hl [0] rfl) hf
  · have hf := itn h hf
    refine lv_aload_n hx hb dX12_four_7 rfl (lv_at hl 0 rfl) ?_
    refine gf_X12_265 X J dX12_four_8 ?_
    refine lv_iconst (v := (4 : Int32)) hx hb dX12_four_11 (by decide) ?_
    refine lv_iadd hx hb dX12_four_12 ?_
    refine lv_aload_n hx hb dX12_four_13 rfl (lv_at hl 0 rfl) ?_
    refine gf_X12_164 X J dX12_four_14 ?_
    refine lv_icmp_le hx hb dX12_four_17 rfl (fun h => ?_) (fun h => ?_)
    · have hf := itp h hf
      exact bX12_four_27 X   J (lv_sub hl [0] rfl) hf
    · have hf := itn h hf
      refine lv_aload_n hx hb dX12_four_20 rfl (lv_at hl 0 rfl) ?_
      refine lv_bipush (v := (9 : Int32)) hx hb dX12_four_21 (by decide) ?_
      refine lv_iload_n hx hb dX12_four_23 rfl (lv_at hl 1 rfl) ?_
      obtain ⟨r4, σ5, hc, hf⟩ := obd_some hf
      refine zr_callv (As := [.int (9 : Int32), .int a1_]) (rest := []) X J 0 ho_R_X12.1 ho_R_X12.2.1 ho_R_X12.2.2 yy_X12_fails mw_methodLink_TinyCModel_239_TinyCModel_fails_IIV (d := 0) (zR_ok (by omega) (by decide)) hl.1 rfl (Nat.le_of_ble_eq_true rfl) (tX12_fails  hc) dX12_four_24 (fun H locs J => ?_)
      exact bX12_four_27 X   J (lv_sub hl [0] rfl) hf
set_option maxHeartbeats 4000000 in
theorem bX12_nests_26 {o : Unit × zSt} (X : zX p s m args meth c D cy shR ad ts cX12_nests 1 none RX12)    {σ : zSt} {H : Heap} {locs : List Loc} {ls : Array Slot} (J : zJ D cy shR ad lnR s σ H locs) (hl : lv_has ls 1 [(0, .ref (ad 0))]) (hf : fX12_nests_b26 N   σ = some o) : W p l e (zRm (1)) s m args below meth c H locs 0 0 (zQv D cy shR ad ts lnR below args s o) (F0 m 26 ls []) := by
  have hx := X.1
  have hb := X.2.1
  unfold fX12_nests_b26 at hf
  refine lv_aload_n hx hb dX12_nests_26 rfl (lv_at hl 0 rfl) ?_
  refine lv_dup hx hb dX12_nests_27 rfl ?_
  refine gf_X12_268 X J dX12_nests_28 ?_
  refine lv_iconst (v := (1 : Int32)) hx hb dX12_nests_31 (by decide) ?_
  refine lv_iadd hx hb dX12_nests_32 ?_
  refine pf_X12_268 X J dX12_nests_33 (fun σ3 H locs eq J => ?_)
  have hf := bnd_eq eq hf
  clear eq
  exact zr_vret X J hf dX12_nests_36
set_option maxHeartbeats 4000000 in
theorem tX12_nests   {σ u : zSt} {r : Unit} (hf : fX12_nests N  σ = some (r, u)) : zMv l yX12_nests cX12_nests 1 none (1) D cy shR ad ts lnR [.ref (ad 0)] σ u := by
  refine zM_of (by decide) (Nat.le_of_ble_eq_true rfl) (fun p e s m args below meth c ls ha X J hl => ?_)
  have hx := X.1
  have hb := X.2.1
  have hl : lv_has ls 1 [(0, .ref (ad 0))] := hl
  generalize s.heap = H at J ⊢
  generalize ([] : List Loc) = locs at J ⊢
  show W p l e (zRm (1)) s m args below meth c H locs 0 0 (zQv D cy shR ad ts lnR below args s (r, u)) (F0 m 0 ls [])
  unfold fX12_nests at hf
  refine lv_aload_n hx hb dX12_nests_0 rfl (lv_at hl 0 rfl) ?_
  obtain ⟨r1, σ2, hc, hf⟩ := obd_some hf
  refine zr_calli (As := []) (rest := []) X J 0 ho_R_X12.1 ho_R_X12.2.1 ho_R_X12.2.2 yy_X12_isWell mw_methodLink_TinyCModel_243_TinyCModel_isWell_Z (d := 0) (zR_ok (by omega) (by decide)) hl.1 rfl (Nat.le_of_ble_eq_true rfl) (tX12_isWell  hc) dX12_nests_1 (fun H locs J => ?_)
  refine lv_if_eq hx hb dX12_nests_4 rfl (fun h => ?_) (fun h => ?_)
  · have hf := itp h hf
    exact bX12_nests_26 X   J (lv_sub hl [0] rfl) hf
  · have hf := itn h hf
    refine lv_aload_n hx hb dX12_nests_7 rfl (lv_at hl 0 rfl) ?_
    refine gf_X12_268 X J dX12_nests_8 ?_
    refine lv_bipush (v := (40 : Int32)) hx hb dX12_nests_11 (by decide) ?_
    refine lv_icmp_ne hx hb dX12_nests_13 rfl (fun h => ?_) (fun h => ?_)
    · have hf := itn h hf
      exact bX12_nests_26 X   J (lv_sub hl [0] rfl) hf
    · have hf := itp h hf
      refine lv_aload_n hx hb dX12_nests_16 rfl (lv_at hl 0 rfl) ?_
      refine lv_bipush (v := (8 : Int32)) hx hb dX12_nests_17 (by decide) ?_
      refine lv_aload_n hx hb dX12_nests_19 rfl (lv_at hl 0 rfl) ?_
      refine gf_X12_199 X J dX12_nests_20 ?_
      obtain ⟨r4, σ5, hc, hf⟩ := obd_some hf
      refine zr_callv (As := [.int (8 : Int32), .int (zI σ2 0 18)]) (rest := []) X J 0 ho_R_X12.1 ho_R_X12.2.1 ho_R_X12.2.2 yy_X12_fails mw_methodLink_TinyCModel_239_TinyCModel_fails_IIV (d := 0) (zR_ok (by omega) (by decide)) hl.1 rfl (Nat.le_of_ble_eq_true rfl) (tX12_fails  hc) dX12_nests_23 (fun H locs J => ?_)
      exact bX12_nests_26 X   J (lv_sub hl [0] rfl) hf
set_option maxHeartbeats 4000000 in
theorem tX12_opens {a1_ : Int32}  {σ u : zSt} {r : Unit} (hf : fX12_opens N a1_ σ = some (r, u)) : zMv l yX12_opens cX12_opens 2 none (3) D cy shR ad ts lnR [.ref (ad 0), .int a1_] σ u := by
  refine zM_of (by decide) (Nat.le_of_ble_eq_true rfl) (fun p e s m args below meth c ls ha X J hl => ?_)
  have hx := X.1
  have hb := X.2.1
  have hl : lv_has ls 2 [(0, .ref (ad 0)), (1, .int a1_)] := hl
  generalize s.heap = H at J ⊢
  generalize ([] : List Loc) = locs at J ⊢
  show W p l e (zRm (3)) s m args below meth c H locs 0 0 (zQv D cy shR ad ts lnR below args s (r, u)) (F0 m 0 ls [])
  unfold fX12_opens at hf
  refine lv_aload_n hx hb dX12_opens_0 rfl (lv_at hl 0 rfl) ?_
  refine lv_iload_n hx hb dX12_opens_1 rfl (lv_at hl 1 rfl) ?_
  obtain ⟨r1, σ2, hc, hf⟩ := obd_some hf
  refine zr_calli (As := [.int a1_]) (rest := []) X J 0 ho_R_X12.1 ho_R_X12.2.1 ho_R_X12.2.2 yy_X12_isSign mw_methodLink_TinyCModel_247_TinyCModel_isSign_IZ (d := 1) (zR_ok (by omega) (by decide)) hl.1 rfl (Nat.le_of_ble_eq_true rfl) (tX12_isSign  hc) dX12_opens_2 (fun H locs J => ?_)
  refine lv_if_eq hx hb dX12_opens_5 rfl (fun h => ?_) (fun h => ?_)
  · have hf := itp h hf
    refine lv_aload_n hx hb dX12_opens_26 rfl (lv_at hl 0 rfl) ?_
    obtain ⟨r3, σ4, hc, hf⟩ := obd_some hf
    refine zr_callv (As := []) (rest := []) X J 0 ho_R_X12.1 ho_R_X12.2.1 ho_R_X12.2.2 yy_X12_stray mw_methodLink_TinyCModel_253_TinyCModel_stray_V (d := 1) (zR_ok (by omega) (by decide)) hl.1 rfl (Nat.le_of_ble_eq_true rfl) (tX12_stray  hc) dX12_opens_27 (fun H locs J => ?_)
    exact zr_vret X J hf dX12_opens_30
  · have hf := itn h hf
    refine lv_aload_n hx hb dX12_opens_8 rfl (lv_at hl 0 rfl) ?_
    obtain ⟨r5, σ6, hc, hf⟩ := obd_some hf
    refine zr_callv (As := []) (rest := []) X J 0 ho_R_X12.1 ho_R_X12.2.1 ho_R_X12.2.2 yy_X12_nests mw_methodLink_TinyCModel_271_TinyCModel_nests_V (d := 1) (zR_ok (by omega) (by decide)) hl.1 rfl (Nat.le_of_ble_eq_true rfl) (tX12_nests  hc) dX12_opens_9 (fun H locs J => ?_)
    refine lv_aload_n hx hb dX12_opens_12 rfl (lv_at hl 0 rfl) ?_
    obtain ⟨r7, σ8, hc, hf⟩ := obd_some hf
    refine zr_calli (As := []) (rest := []) X J 0 ho_R_X12.1 ho_R_X12.2.1 ho_R_X12.2.2 yy_X12_isWell mw_methodLink_TinyCModel_243_TinyCModel_isWell_Z (d := 0) (zR_ok (by omega) (by decide)) hl.1 rfl (Nat.le_of_ble_eq_true rfl) (tX12_isWell  hc) dX12_opens_13 (fun H locs J => ?_)
    refine lv_if_eq hx hb dX12_opens_16 rfl (fun h => ?_) (fun h => ?_)
    · have hf := itp h hf
      exact zr_vret X J hf dX12_opens_30
    · have hf := itn h hf
      refine lv_aload_n hx hb dX12_opens_19 rfl (lv_at hl 0 rfl) ?_
      obtain ⟨r9, σ10, hc, hf⟩ := obd_some hf
      refine zr_callv (As := []) (rest := []) X J 0 ho_R_X12.1 ho_R_X12.2.1 ho_R_X12.2.2 yy_X12_next mw_methodLink_TinyCModel_250_TinyCModel_next_V (d := 2) (zR_ok (by omega) (by decide)) hl.1 rfl (Nat.le_of_ble_eq_true rfl) (tX12_next  hc) dX12_opens_20 (fun H locs J => ?_)
      refine lv_goto hx hb dX12_opens_23 rfl ?_
      exact zr_vret X J hf dX12_opens_30
set_option maxHeartbeats 4000000 in
theorem tX12_closes {a1_ : Int32}  {σ u : zSt} {r : Unit} (hf : fX12_closes N a1_ σ = some (r, u)) : zMv l yX12_closes cX12_closes 2 none (4) D cy shR ad ts lnR [.ref (ad 0), .int a1_] σ u := by
  refine zM_of (by decide) (Nat.le_of_ble_eq_true rfl) (fun p e s m args below meth c ls ha X J hl => ?_)
  have hx := X.1
  have hb := X.2.1
  have hl : lv_has ls 2 [(0, .ref (ad 0)), (1, .int a1_)] := hl
  generalize s.heap = H at J ⊢
  generalize ([] : List Loc) = locs at J ⊢
  show W p l e (zRm (4)) s m args below meth c H locs 0 0 (zQv D cy shR ad ts lnR below args s (r, u)) (F0 m 0 ls [])
  unfold fX12_closes at hf
  refine lv_aload_n hx hb dX12_closes_0 rfl (lv_at hl 0 rfl) ?_
  refine lv_iload_n hx hb dX12_closes_1 rfl (lv_at hl 1 rfl) ?_
  obtain ⟨r1, σ2, hc, hf⟩ := obd_some hf
  refine zr_callv (As := [.int a1_]) (rest := []) X J 0 ho_R_X12.1 ho_R_X12.2.1 ho_R_X12.2.2 yy_X12_takes mw_methodLink_TinyCModel_274_TinyCModel_takes_IV (d := 3) (zR_ok (by omega) (by decide)) hl.1 rfl (Nat.le_of_ble_eq_true rfl) (tX12_takes  hc) dX12_closes_2 (fun H locs J => ?_)
  refine lv_aload_n hx hb dX12_closes_5 rfl (lv_at hl 0 rfl) ?_
  refine lv_dup hx hb dX12_closes_6 rfl ?_
  refine gf_X12_268 X J dX12_closes_7 ?_
  refine lv_iconst (v := (1 : Int32)) hx hb dX12_closes_10 (by decide) ?_
  refine lv_isub hx hb dX12_closes_11 ?_
  refine pf_X12_268 X J dX12_closes_12 (fun σ3 H locs eq J => ?_)
  have hf := bnd_eq eq hf
  clear eq
  exact zr_vret X J hf dX12_closes_15
set_option maxHeartbeats 4000000 in
theorem bX12_parameter_77 {o : Unit × zSt} (X : zX p s m args meth c D cy shR ad ts cX12_parameter 1 none RX12)    {σ : zSt} {H : Heap} {locs : List Loc} {ls : Array Slot} (J : zJ D cy shR ad lnR s σ H locs) (hl : lv_has ls 1 [(0, .ref (ad 0))]) (hf : fX12_parameter_b77 N   σ = some o) : W p l e (zRm (3)) s m args below meth c H locs 0 0 (zQv D cy shR ad ts lnR below args s o) (F0 m 77 ls []) := by
  have hx := X.1
  have hb := X.2.1
  unfold fX12_parameter_b77 at hf
  refine lv_aload_n hx hb dX12_parameter_77 rfl (lv_at hl 0 rfl) ?_
  obtain ⟨r7, σ8, hc, hf⟩ := obd_some hf
  refine zr_calli (As := []) (rest := []) X J 0 ho_R_X12.1 ho_R_X12.2.1 ho_R_X12.2.2 yy_X12_isWell mw_methodLink_TinyCModel_243_TinyCModel_isWell_Z (d := 0) (zR_ok (by omega) (by decide)) hl.1 rfl (Nat.le_of_ble_eq_true rfl) (tX12_isWell  hc) dX12_parameter_78 (fun H locs J => ?_)
  refine lv_if_ne hx hb dX12_parameter_81 rfl (fun h => ?_) (fun h => ?_)
  · have hf := itn h hf
    refine lv_aload_n hx hb dX12_parameter_85 rfl (lv_at hl 0 rfl) ?_
    refine gf_X12_47 X J dX12_parameter_86 ?_
    refine lv_aload_n hx hb dX12_parameter_89 rfl (lv_at hl 0 rfl) ?_
    refine gf_X12_259 X J dX12_parameter_90 ?_
    refine lv_aload_n hx hb dX12_parameter_93 rfl (lv_at hl 0 rfl) ?_
    refine gf_X12_202 X J dX12_parameter_94 ?_
    obtain ⟨hin, hf⟩ := itx hf
    refine as_X12_X12f31 X J hin dX12_parameter_97 (fun σ9 H locs eq J => ?_)
    have hf := bnd_eq eq hf
    clear eq
    refine lv_aload_n hx hb dX12_parameter_98 rfl (lv_at hl 0 rfl) ?_
    refine lv_dup hx hb dX12_parameter_99 rfl ?_
    refine gf_X12_259 X J dX12_parameter_100 ?_
    refine lv_iconst (v := (1 : Int32)) hx hb dX12_parameter_103 (by decide) ?_
    refine lv_iadd hx hb dX12_parameter_104 ?_
    refine pf_X12_259 X J dX12_parameter_105 (fun σ10 H locs eq J => ?_)
    have hf := bnd_eq eq hf
    clear eq
    refine lv_aload_n hx hb dX12_parameter_108 rfl (lv_at hl 0 rfl) ?_
    refine gf_X12_38 X J dX12_parameter_109 ?_
    refine lv_aload_n hx hb dX12_parameter_112 rfl (lv_at hl 0 rfl) ?_
    refine gf_X12_312 X J dX12_parameter_113 ?_
    refine lv_dup2_11 hx hb dX12_parameter_116 rfl rfl ?_
    obtain ⟨hin, hf⟩ := itx hf
    refine al_X12_X12f26 X J hin dX12_parameter_117 ?_
    refine lv_iconst (v := (1 : Int32)) hx hb dX12_parameter_118 (by decide) ?_
    refine lv_iadd hx hb dX12_parameter_119 ?_
    obtain ⟨hin, hf⟩ := itx hf
    refine as_X12_X12f26 X J hin dX12_parameter_120 (fun σ11 H locs eq J => ?_)
    have hf := bnd_eq eq hf
    clear eq
    refine lv_aload_n hx hb dX12_parameter_121 rfl (lv_at hl 0 rfl) ?_
    obtain ⟨r12, σ13, hc, hf⟩ := obd_some hf
    refine zr_callv (As := []) (rest := []) X J 0 ho_R_X12.1 ho_R_X12.2.1 ho_R_X12.2.2 yy_X12_next mw_methodLink_TinyCModel_250_TinyCModel_next_V (d := 2) (zR_ok (by omega) (by decide)) hl.1 rfl (Nat.le_of_ble_eq_true rfl) (tX12_next  hc) dX12_parameter_122 (fun H locs J => ?_)
    exact zr_vret X J hf dX12_parameter_125
  · have hf := itp h hf
    exact zr_vret X J hf dX12_parameter_84
set_option maxHeartbeats 4000000 in
theorem tX12_parameter   {σ u : zSt} {r : Unit} (hf : fX12_parameter N  σ = some (r, u)) : zMv l yX12_parameter cX12_parameter 1 none (3) D cy shR ad ts lnR [.ref (ad 0)] σ u := by
  refine zM_of (by decide) (Nat.le_of_ble_eq_true rfl) (fun p e s m args below meth c ls ha X J hl => ?_)
  have hx := X.1
  have hb := X.2.1
  have hl : lv_has ls 1 [(0, .ref (ad 0))] := hl
  generalize s.heap = H at J ⊢
  generalize ([] : List Loc) = locs at J ⊢
  show W p l e (zRm (3)) s m args below meth c H locs 0 0 (zQv D cy shR ad ts lnR below args s (r, u)) (F0 m 0 ls [])
  unfold fX12_parameter at hf
  refine lv_aload_n hx hb dX12_parameter_0 rfl (lv_at hl 0 rfl) ?_
  refine lv_iconst (v := (0 : Int32)) hx hb dX12_parameter_1 (by decide) ?_
  obtain ⟨r1, σ2, hc, hf⟩ := obd_some hf
  refine zr_calli (As := [.int (0 : Int32)]) (rest := []) X J 0 ho_R_X12.1 ho_R_X12.2.1 ho_R_X12.2.2 yy_X12_isWord mw_methodLink_TinyCModel_290_TinyCModel_isWord_IZ (d := 1) (zR_ok (by omega) (by decide)) hl.1 rfl (Nat.le_of_ble_eq_true rfl) (tX12_isWord  hc) dX12_parameter_2 (fun H locs J => ?_)
  refine lv_if_ne hx hb dX12_parameter_5 rfl (fun h => ?_) (fun h => ?_)
  · have hf := itn h hf
    refine lv_aload_n hx hb dX12_parameter_13 rfl (lv_at hl 0 rfl) ?_
    obtain ⟨r3, σ4, hc, hf⟩ := obd_some hf
    refine zr_callv (As := []) (rest := []) X J 0 ho_R_X12.1 ho_R_X12.2.1 ho_R_X12.2.2 yy_X12_next mw_methodLink_TinyCModel_250_TinyCModel_next_V (d := 2) (zR_ok (by omega) (by decide)) hl.1 rfl (Nat.le_of_ble_eq_true rfl) (tX12_next  hc) dX12_parameter_14 (fun H locs J => ?_)
    refine lv_aload_n hx hb dX12_parameter_17 rfl (lv_at hl 0 rfl) ?_
    refine gf_X12_206 X J dX12_parameter_18 ?_
    refine lv_iconst (v := (1 : Int32)) hx hb dX12_parameter_21 (by decide) ?_
    refine lv_icmp_eq hx hb dX12_parameter_22 rfl (fun h => ?_) (fun h => ?_)
    · have hf := itp h hf
      refine lv_aload_n hx hb dX12_parameter_30 rfl (lv_at hl 0 rfl) ?_
      refine lv_aload_n hx hb dX12_parameter_31 rfl (lv_at hl 0 rfl) ?_
      refine gf_X12_202 X J dX12_parameter_32 ?_
      obtain ⟨r5, σ6, hc, hf⟩ := obd_some hf
      refine zr_calli (As := [.long (zL σ4 0 20)]) (rest := []) X J 0 ho_R_X12.1 ho_R_X12.2.1 ho_R_X12.2.2 yy_X12_localOf mw_methodLink_TinyCModel_324_TinyCModel_localOf_JI (d := 0) (zR_ok (by omega) (by decide)) hl.1 rfl (Nat.le_of_ble_eq_true rfl) (tX12_localOf  hc) dX12_parameter_35 (fun H locs J => ?_)
      refine lv_if_lt hx hb dX12_parameter_38 rfl (fun h => ?_) (fun h => ?_)
      · have hf := itp h hf
        refine lv_aload_n hx hb dX12_parameter_53 rfl (lv_at hl 0 rfl) ?_
        refine gf_X12_38 X J dX12_parameter_54 ?_
        refine lv_aload_n hx hb dX12_parameter_57 rfl (lv_at hl 0 rfl) ?_
        refine gf_X12_312 X J dX12_parameter_58 ?_
        obtain ⟨hin, hf⟩ := itx hf
        refine al_X12_X12f26 X J hin dX12_parameter_61 ?_
        refine lv_bipush (v := (8 : Int32)) hx hb dX12_parameter_62 (by decide) ?_
        refine lv_icmp_ne hx hb dX12_parameter_64 rfl (fun h => ?_) (fun h => ?_)
        · have hf := itn h hf
          exact bX12_parameter_77 X   J (lv_sub hl [0] rfl) hf
        · have hf := itp h hf
          refine lv_aload_n hx hb dX12_parameter_67 rfl (lv_at hl 0 rfl) ?_
          refine lv_bipush (v := (6 : Int32)) hx hb dX12_parameter_68 (by decide) ?_
          refine lv_aload_n hx hb dX12_parameter_70 rfl (lv_at hl 0 rfl) ?_
          refine gf_X12_199 X J dX12_parameter_71 ?_
          obtain ⟨r14, σ15, hc, hf⟩ := obd_some hf
          refine zr_callv (As := [.int (6 : Int32), .int (zI σ6 0 18)]) (rest := []) X J 0 ho_R_X12.1 ho_R_X12.2.1 ho_R_X12.2.2 yy_X12_fails mw_methodLink_TinyCModel_239_TinyCModel_fails_IIV (d := 0) (zR_ok (by omega) (by decide)) hl.1 rfl (Nat.le_of_ble_eq_true rfl) (tX12_fails  hc) dX12_parameter_74 (fun H locs J => ?_)
          exact bX12_parameter_77 X   J (lv_sub hl [0] rfl) hf
      · have hf := itn h hf
        refine lv_aload_n hx hb dX12_parameter_41 rfl (lv_at hl 0 rfl) ?_
        refine lv_iconst (v := (4 : Int32)) hx hb dX12_parameter_42 (by decide) ?_
        refine lv_aload_n hx hb dX12_parameter_43 rfl (lv_at hl 0 rfl) ?_
        refine gf_X12_199 X J dX12_parameter_44 ?_
        obtain ⟨r16, σ17, hc, hf⟩ := obd_some hf
        refine zr_callv (As := [.int (4 : Int32), .int (zI σ6 0 18)]) (rest := []) X J 0 ho_R_X12.1 ho_R_X12.2.1 ho_R_X12.2.2 yy_X12_fails mw_methodLink_TinyCModel_239_TinyCModel_fails_IIV (d := 0) (zR_ok (by omega) (by decide)) hl.1 rfl (Nat.le_of_ble_eq_true rfl) (tX12_fails  hc) dX12_parameter_47 (fun H locs J => ?_)
        refine lv_goto hx hb dX12_parameter_50 rfl ?_
        exact bX12_parameter_77 X   J (lv_sub hl [0] rfl) hf
    · have hf := itn h hf
      refine lv_aload_n hx hb dX12_parameter_25 rfl (lv_at hl 0 rfl) ?_
      obtain ⟨r18, σ19, hc, hf⟩ := obd_some hf
      refine zr_callv (As := []) (rest := []) X J 0 ho_R_X12.1 ho_R_X12.2.1 ho_R_X12.2.2 yy_X12_stray mw_methodLink_TinyCModel_253_TinyCModel_stray_V (d := 1) (zR_ok (by omega) (by decide)) hl.1 rfl (Nat.le_of_ble_eq_true rfl) (tX12_stray  hc) dX12_parameter_26 (fun H locs J => ?_)
      exact zr_vret X J hf dX12_parameter_29
  · have hf := itp h hf
    refine lv_aload_n hx hb dX12_parameter_8 rfl (lv_at hl 0 rfl) ?_
    obtain ⟨r20, σ21, hc, hf⟩ := obd_some hf
    refine zr_callv (As := []) (rest := []) X J 0 ho_R_X12.1 ho_R_X12.2.1 ho_R_X12.2.2 yy_X12_stray mw_methodLink_TinyCModel_253_TinyCModel_stray_V (d := 1) (zR_ok (by omega) (by decide)) hl.1 rfl (Nat.le_of_ble_eq_true rfl) (tX12_stray  hc) dX12_parameter_9 (fun H locs J => ?_)
    exact zr_vret X J hf dX12_parameter_12
set_option maxHeartbeats 4000000 in
theorem tX12_enter {a1_ : Int32} {a2_ : Int32}  {σ u : zSt} {r : Unit} (hf : fX12_enter N a1_ a2_ σ = some (r, u)) : zMv l yX12_enter cX12_enter 3 none (0) D cy shR ad ts lnR [.ref (ad 0), .int a1_, .int a2_] σ u := by
  refine zM_of (by decide) (Nat.le_of_ble_eq_true rfl) (fun p e s m args below meth c ls ha X J hl => ?_)
  have hx := X.1
  have hb := X.2.1
  have hl : lv_has ls 3 [(0, .ref (ad 0)), (1, .int a1_), (2, .int a2_)] := hl
  generalize s.heap = H at J ⊢
  generalize ([] : List Loc) = locs at J ⊢
  show W p l e (zRm (0)) s m args below meth c H locs 0 0 (zQv D cy shR ad ts lnR below args s (r, u)) (F0 m 0 ls [])
  unfold fX12_enter at hf
  refine lv_aload_n hx hb dX12_enter_0 rfl (lv_at hl 0 rfl) ?_
  refine gf_X12_74 X J dX12_enter_1 ?_
  refine lv_aload_n hx hb dX12_enter_4 rfl (lv_at hl 0 rfl) ?_
  refine gf_X12_327 X J dX12_enter_5 ?_
  refine lv_iload_n hx hb dX12_enter_8 rfl (lv_at hl 1 rfl) ?_
  obtain ⟨hin, hf⟩ := itx hf
  refine as_X12_X12f47 X J hin dX12_enter_9 (fun σ1 H locs eq J => ?_)
  have hf := bnd_eq eq hf
  clear eq
  refine lv_aload_n hx hb dX12_enter_10 rfl (lv_at hl 0 rfl) ?_
  refine gf_X12_77 X J dX12_enter_11 ?_
  refine lv_aload_n hx hb dX12_enter_14 rfl (lv_at hl 0 rfl) ?_
  refine gf_X12_327 X J dX12_enter_15 ?_
  refine lv_iload_n hx hb dX12_enter_18 rfl (lv_at hl 2 rfl) ?_
  obtain ⟨hin, hf⟩ := itx hf
  refine as_X12_X12f48 X J hin dX12_enter_19 (fun σ2 H locs eq J => ?_)
  have hf := bnd_eq eq hf
  clear eq
  refine lv_aload_n hx hb dX12_enter_20 rfl (lv_at hl 0 rfl) ?_
  refine lv_dup hx hb dX12_enter_21 rfl ?_
  refine gf_X12_327 X J dX12_enter_22 ?_
  refine lv_iconst (v := (1 : Int32)) hx hb dX12_enter_25 (by decide) ?_
  refine lv_iadd hx hb dX12_enter_26 ?_
  refine pf_X12_327 X J dX12_enter_27 (fun σ3 H locs eq J => ?_)
  have hf := bnd_eq eq hf
  clear eq
  exact zr_vret X J hf dX12_enter_30
set_option maxHeartbeats 4000000 in
theorem tX12_beginBlock   {σ u : zSt} {r : Unit} (hf : fX12_beginBlock N  σ = some (r, u)) : zMv l yX12_beginBlock cX12_beginBlock 2 none (4) D cy shR ad ts lnR [.ref (ad 0)] σ u := by
  refine zM_of (by decide) (Nat.le_of_ble_eq_true rfl) (fun p e s m args below meth c ls ha X J hl => ?_)
  have hx := X.1
  have hb := X.2.1
  have hl : lv_has ls 2 [(0, .ref (ad 0))] := hl
  generalize s.heap = H at J ⊢
  generalize ([] : List Loc) = locs at J ⊢
  show W p l e (zRm (4)) s m args below meth c H locs 0 0 (zQv D cy shR ad ts lnR below args s (r, u)) (F0 m 0 ls [])
  unfold fX12_beginBlock at hf
  refine lv_aload_n hx hb dX12_beginBlock_0 rfl (lv_at hl 0 rfl) ?_
  refine lv_bipush (v := (20 : Int32)) hx hb dX12_beginBlock_1 (by decide) ?_
  obtain ⟨r1, σ2, hc, hf⟩ := obd_some hf
  refine zr_calli (As := [.int (20 : Int32)]) (rest := []) X J 0 ho_R_X12.1 ho_R_X12.2.1 ho_R_X12.2.2 yy_X12_node mw_methodLink_TinyCModel_330_TinyCModel_node_II (d := 0) (zR_ok (by omega) (by decide)) hl.1 rfl (Nat.le_of_ble_eq_true rfl) (tX12_node  hc) dX12_beginBlock_3 (fun H locs J => ?_)
  refine lv_istore_n hx hb dX12_beginBlock_6 rfl hl (by decide) rfl (fun ls hl => ?_)
  have hl : lv_has ls 2 [(1, .int r1), (0, .ref (ad 0))] := hl
  refine lv_aload_n hx hb dX12_beginBlock_7 rfl (lv_at hl 1 rfl) ?_
  refine gf_X12_87 X J dX12_beginBlock_8 ?_
  refine lv_aload_n hx hb dX12_beginBlock_11 rfl (lv_at hl 1 rfl) ?_
  refine gf_X12_327 X J dX12_beginBlock_12 ?_
  refine lv_aload_n hx hb dX12_beginBlock_15 rfl (lv_at hl 1 rfl) ?_
  refine gf_X12_333 X J dX12_beginBlock_16 ?_
  obtain ⟨hin, hf⟩ := itx hf
  refine as_X12_X12f51 X J hin dX12_beginBlock_19 (fun σ3 H locs eq J => ?_)
  have hf := bnd_eq eq hf
  clear eq
  refine lv_aload_n hx hb dX12_beginBlock_20 rfl (lv_at hl 1 rfl) ?_
  refine gf_X12_90 X J dX12_beginBlock_21 ?_
  refine lv_aload_n hx hb dX12_beginBlock_24 rfl (lv_at hl 1 rfl) ?_
  refine gf_X12_327 X J dX12_beginBlock_25 ?_
  refine lv_aload_n hx hb dX12_beginBlock_28 rfl (lv_at hl 1 rfl) ?_
  refine gf_X12_259 X J dX12_beginBlock_29 ?_
  obtain ⟨hin, hf⟩ := itx hf
  refine as_X12_X12f52 X J hin dX12_beginBlock_32 (fun σ4 H locs eq J => ?_)
  have hf := bnd_eq eq hf
  clear eq
  refine lv_aload_n hx hb dX12_beginBlock_33 rfl (lv_at hl 1 rfl) ?_
  refine gf_X12_93 X J dX12_beginBlock_34 ?_
  refine lv_aload_n hx hb dX12_beginBlock_37 rfl (lv_at hl 1 rfl) ?_
  refine gf_X12_327 X J dX12_beginBlock_38 ?_
  refine lv_aload_n hx hb dX12_beginBlock_41 rfl (lv_at hl 1 rfl) ?_
  refine gf_X12_315 X J dX12_beginBlock_42 ?_
  obtain ⟨hin, hf⟩ := itx hf
  refine as_X12_X12f53 X J hin dX12_beginBlock_45 (fun σ5 H locs eq J => ?_)
  have hf := bnd_eq eq hf
  clear eq
  refine lv_aload_n hx hb dX12_beginBlock_46 rfl (lv_at hl 1 rfl) ?_
  refine gf_X12_80 X J dX12_beginBlock_47 ?_
  refine lv_aload_n hx hb dX12_beginBlock_50 rfl (lv_at hl 1 rfl) ?_
  refine gf_X12_327 X J dX12_beginBlock_51 ?_
  refine lv_iconst (v := (-1 : Int32)) hx hb dX12_beginBlock_54 (by decide) ?_
  obtain ⟨hin, hf⟩ := itx hf
  refine as_X12_X12f49 X J hin dX12_beginBlock_55 (fun σ6 H locs eq J => ?_)
  have hf := bnd_eq eq hf
  clear eq
  refine lv_aload_n hx hb dX12_beginBlock_56 rfl (lv_at hl 1 rfl) ?_
  refine gf_X12_83 X J dX12_beginBlock_57 ?_
  refine lv_aload_n hx hb dX12_beginBlock_60 rfl (lv_at hl 1 rfl) ?_
  refine gf_X12_327 X J dX12_beginBlock_61 ?_
  refine lv_iconst (v := (1 : Int32)) hx hb dX12_beginBlock_64 (by decide) ?_
  obtain ⟨hin, hf⟩ := itx hf
  refine as_X12_X12f50 X J hin (by decide) dX12_beginBlock_65 (fun σ7 H locs eq J => ?_)
  have hf := bnd_eq eq hf
  clear eq
  refine lv_aload_n hx hb dX12_beginBlock_66 rfl (lv_at hl 1 rfl) ?_
  refine lv_iconst (v := (0 : Int32)) hx hb dX12_beginBlock_67 (by decide) ?_
  refine lv_iload_n hx hb dX12_beginBlock_68 rfl (lv_at hl 0 rfl) ?_
  obtain ⟨r8, σ9, hc, hf⟩ := obd_some hf
  refine zr_callv (As := [.int (0 : Int32), .int r1]) (rest := []) X J 0 ho_R_X12.1 ho_R_X12.2.1 ho_R_X12.2.2 yy_X12_enter mw_methodLink_TinyCModel_336_TinyCModel_enter_IIV (d := 0) (zR_ok (by omega) (by decide)) hl.1 rfl (Nat.le_of_ble_eq_true rfl) (tX12_enter  hc) dX12_beginBlock_69 (fun H locs J => ?_)
  refine lv_aload_n hx hb dX12_beginBlock_72 rfl (lv_at hl 1 rfl) ?_
  refine lv_aload_n hx hb dX12_beginBlock_73 rfl (lv_at hl 1 rfl) ?_
  refine gf_X12_259 X J dX12_beginBlock_74 ?_
  refine pf_X12_333 X J dX12_beginBlock_77 (fun σ10 H locs eq J => ?_)
  have hf := bnd_eq eq hf
  clear eq
  refine lv_aload_n hx hb dX12_beginBlock_80 rfl (lv_at hl 1 rfl) ?_
  refine lv_bipush (v := (123 : Int32)) hx hb dX12_beginBlock_81 (by decide) ?_
  obtain ⟨r11, σ12, hc, hf⟩ := obd_some hf
  refine zr_callv (As := [.int (123 : Int32)]) (rest := []) X J 0 ho_R_X12.1 ho_R_X12.2.1 ho_R_X12.2.2 yy_X12_opens mw_methodLink_TinyCModel_300_TinyCModel_opens_IV (d := 3) (zR_ok (by omega) (by decide)) hl.1 rfl (Nat.le_of_ble_eq_true rfl) (tX12_opens  hc) dX12_beginBlock_83 (fun H locs J => ?_)
  exact zr_vret X J hf dX12_beginBlock_86
set_option maxHeartbeats 4000000 in
theorem bX12_append_44 {o : Unit × zSt} (X : zX p s m args meth c D cy shR ad ts cX12_append 3 none RX12)  {x1_ : Int32} {x2_ : Int32}  {σ : zSt} {H : Heap} {locs : List Loc} {ls : Array Slot} (J : zJ D cy shR ad lnR s σ H locs) (hl : lv_has ls 3 [(0, .ref (ad 0)), (1, .int x1_), (2, .int x2_)]) (hf : fX12_append_b44 N  x1_ x2_ σ = some o) : W p l e (zRm (0)) s m args below meth c H locs 0 0 (zQv D cy shR ad ts lnR below args s o) (F0 m 44 ls []) := by
  have hx := X.1
  have hb := X.2.1
  unfold fX12_append_b44 at hf
  refine lv_aload_n hx hb dX12_append_44 rfl (lv_at hl 0 rfl) ?_
  refine gf_X12_80 X J dX12_append_45 ?_
  refine lv_iload_n hx hb dX12_append_48 rfl (lv_at hl 2 rfl) ?_
  refine lv_iload_n hx hb dX12_append_49 rfl (lv_at hl 1 rfl) ?_
  obtain ⟨hin, hf⟩ := itx hf
  refine as_X12_X12f49 X J hin dX12_append_50 (fun σ3 H locs eq J => ?_)
  have hf := bnd_eq eq hf
  clear eq
  exact zr_vret X J hf dX12_append_51
set_option maxHeartbeats 4000000 in
theorem tX12_append {a1_ : Int32}  {σ u : zSt} {r : Unit} (hf : fX12_append N a1_ σ = some (r, u)) : zMv l yX12_append cX12_append 3 none (0) D cy shR ad ts lnR [.ref (ad 0), .int a1_] σ u := by
  refine zM_of (by decide) (Nat.le_of_ble_eq_true rfl) (fun p e s m args below meth c ls ha X J hl => ?_)
  have hx := X.1
  have hb := X.2.1
  have hl : lv_has ls 3 [(0, .ref (ad 0)), (1, .int a1_)] := hl
  generalize s.heap = H at J ⊢
  generalize ([] : List Loc) = locs at J ⊢
  show W p l e (zRm (0)) s m args below meth c H locs 0 0 (zQv D cy shR ad ts lnR below args s (r, u)) (F0 m 0 ls [])
  unfold fX12_append at hf
  refine lv_aload_n hx hb dX12_append_0 rfl (lv_at hl 0 rfl) ?_
  refine gf_X12_327 X J dX12_append_1 ?_
  refine lv_iconst (v := (1 : Int32)) hx hb dX12_append_4 (by decide) ?_
  refine lv_isub hx hb dX12_append_5 ?_
  refine lv_topi (fun x1 eq => ?_)
  have hf := bnd_eq eq hf
  clear eq
  refine lv_istore_n hx hb dX12_append_6 rfl hl (by decide) rfl (fun ls hl => ?_)
  have hl : lv_has ls 3 [(2, .int x1), (0, .ref (ad 0)), (1, .int a1_)] := hl
  refine lv_aload_n hx hb dX12_append_7 rfl (lv_at hl 1 rfl) ?_
  refine gf_X12_80 X J dX12_append_8 ?_
  refine lv_iload_n hx hb dX12_append_11 rfl (lv_at hl 0 rfl) ?_
  obtain ⟨hin, hf⟩ := itx hf
  refine al_X12_X12f49 X J hin dX12_append_12 ?_
  refine lv_iconst (v := (-1 : Int32)) hx hb dX12_append_13 (by decide) ?_
  refine lv_icmp_ne hx hb dX12_append_14 rfl (fun h => ?_) (fun h => ?_)
  · have hf := itn h hf
    refine lv_aload_n hx hb dX12_append_32 rfl (lv_at hl 1 rfl) ?_
    refine gf_X12_71 X J dX12_append_33 ?_
    refine lv_aload_n hx hb dX12_append_36 rfl (lv_at hl 1 rfl) ?_
    refine gf_X12_80 X J dX12_append_37 ?_
    refine lv_iload_n hx hb dX12_append_40 rfl (lv_at hl 0 rfl) ?_
    obtain ⟨hin, hf⟩ := itx hf
    refine al_X12_X12f49 X J hin dX12_append_41 ?_
    refine lv_iload_n hx hb dX12_append_42 rfl (lv_at hl 2 rfl) ?_
    obtain ⟨hin, hf⟩ := itx hf
    refine as_X12_X12f45 X J hin dX12_append_43 (fun σ2 H locs eq J => ?_)
    have hf := bnd_eq eq hf
    clear eq
    exact bX12_append_44 X   J (lv_sub hl [1, 2, 0] rfl) hf
  · have hf := itp h hf
    refine lv_aload_n hx hb dX12_append_17 rfl (lv_at hl 1 rfl) ?_
    refine gf_X12_56 X J dX12_append_18 ?_
    refine lv_aload_n hx hb dX12_append_21 rfl (lv_at hl 1 rfl) ?_
    refine gf_X12_77 X J dX12_append_22 ?_
    refine lv_iload_n hx hb dX12_append_25 rfl (lv_at hl 0 rfl) ?_
    obtain ⟨hin, hf⟩ := itx hf
    refine al_X12_X12f48 X J hin dX12_append_26 ?_
    refine lv_iload_n hx hb dX12_append_27 rfl (lv_at hl 2 rfl) ?_
    obtain ⟨hin, hf⟩ := itx hf
    refine as_X12_X12f40 X J hin dX12_append_28 (fun σ4 H locs eq J => ?_)
    have hf := bnd_eq eq hf
    clear eq
    refine lv_goto hx hb dX12_append_29 rfl ?_
    exact bX12_append_44 X   J (lv_sub hl [1, 2, 0] rfl) hf
set_option maxHeartbeats 4000000 in
theorem tX12_waits {a1_ : Int32} {a2_ : Int32} {a3_ : Int32}  {σ u : zSt} {r : Unit} (hf : fX12_waits N a1_ a2_ a3_ σ = some (r, u)) : zMv l yX12_waits cX12_waits 4 none (0) D cy shR ad ts lnR [.ref (ad 0), .int a1_, .int a2_, .int a3_] σ u := by
  refine zM_of (by decide) (Nat.le_of_ble_eq_true rfl) (fun p e s m args below meth c ls ha X J hl => ?_)
  have hx := X.1
  have hb := X.2.1
  have hl : lv_has ls 4 [(0, .ref (ad 0)), (1, .int a1_), (2, .int a2_), (3, .int a3_)] := hl
  generalize s.heap = H at J ⊢
  generalize ([] : List Loc) = locs at J ⊢
  show W p l e (zRm (0)) s m args below meth c H locs 0 0 (zQv D cy shR ad ts lnR below args s (r, u)) (F0 m 0 ls [])
  unfold fX12_waits at hf
  refine lv_aload_n hx hb dX12_waits_0 rfl (lv_at hl 0 rfl) ?_
  refine gf_X12_96 X J dX12_waits_1 ?_
  refine lv_aload_n hx hb dX12_waits_4 rfl (lv_at hl 0 rfl) ?_
  refine gf_X12_370 X J dX12_waits_5 ?_
  refine lv_iload_n hx hb dX12_waits_8 rfl (lv_at hl 1 rfl) ?_
  obtain ⟨hin, hf⟩ := itx hf
  refine as_X12_X12f55 X J hin dX12_waits_9 (fun σ1 H locs eq J => ?_)
  have hf := bnd_eq eq hf
  clear eq
  refine lv_aload_n hx hb dX12_waits_10 rfl (lv_at hl 0 rfl) ?_
  refine gf_X12_99 X J dX12_waits_11 ?_
  refine lv_aload_n hx hb dX12_waits_14 rfl (lv_at hl 0 rfl) ?_
  refine gf_X12_370 X J dX12_waits_15 ?_
  refine lv_iload_n hx hb dX12_waits_18 rfl (lv_at hl 2 rfl) ?_
  obtain ⟨hin, hf⟩ := itx hf
  refine as_X12_X12f56 X J hin dX12_waits_19 (fun σ2 H locs eq J => ?_)
  have hf := bnd_eq eq hf
  clear eq
  refine lv_aload_n hx hb dX12_waits_20 rfl (lv_at hl 0 rfl) ?_
  refine gf_X12_102 X J dX12_waits_21 ?_
  refine lv_aload_n hx hb dX12_waits_24 rfl (lv_at hl 0 rfl) ?_
  refine gf_X12_370 X J dX12_waits_25 ?_
  refine lv_iload_n hx hb dX12_waits_28 rfl (lv_at hl 3 rfl) ?_
  obtain ⟨hin, hf⟩ := itx hf
  refine as_X12_X12f57 X J hin dX12_waits_29 (fun σ3 H locs eq J => ?_)
  have hf := bnd_eq eq hf
  clear eq
  refine lv_aload_n hx hb dX12_waits_30 rfl (lv_at hl 0 rfl) ?_
  refine gf_X12_105 X J dX12_waits_31 ?_
  refine lv_aload_n hx hb dX12_waits_34 rfl (lv_at hl 0 rfl) ?_
  refine gf_X12_370 X J dX12_waits_35 ?_
  refine lv_iconst (v := (-1 : Int32)) hx hb dX12_waits_38 (by decide) ?_
  obtain ⟨hin, hf⟩ := itx hf
  refine as_X12_X12f58 X J hin dX12_waits_39 (fun σ4 H locs eq J => ?_)
  have hf := bnd_eq eq hf
  clear eq
  refine lv_aload_n hx hb dX12_waits_40 rfl (lv_at hl 0 rfl) ?_
  refine gf_X12_108 X J dX12_waits_41 ?_
  refine lv_aload_n hx hb dX12_waits_44 rfl (lv_at hl 0 rfl) ?_
  refine gf_X12_370 X J dX12_waits_45 ?_
  refine lv_iconst (v := (-1 : Int32)) hx hb dX12_waits_48 (by decide) ?_
  obtain ⟨hin, hf⟩ := itx hf
  refine as_X12_X12f59 X J hin dX12_waits_49 (fun σ5 H locs eq J => ?_)
  have hf := bnd_eq eq hf
  clear eq
  refine lv_aload_n hx hb dX12_waits_50 rfl (lv_at hl 0 rfl) ?_
  refine lv_dup hx hb dX12_waits_51 rfl ?_
  refine gf_X12_370 X J dX12_waits_52 ?_
  refine lv_iconst (v := (1 : Int32)) hx hb dX12_waits_55 (by decide) ?_
  refine lv_iadd hx hb dX12_waits_56 ?_
  refine pf_X12_370 X J dX12_waits_57 (fun σ6 H locs eq J => ?_)
  have hf := bnd_eq eq hf
  clear eq
  exact zr_vret X J hf dX12_waits_60
set_option maxHeartbeats 4000000 in
theorem tX12_itemOf {a1_ : Int32}  {σ u : zSt} {r : Int32} (hf : fX12_itemOf N a1_ σ = some (r, u)) : zMi l yX12_itemOf cX12_itemOf 3 (some .int) (4) D cy shR ad ts lnR [.ref (ad 0), .int a1_] σ r u := by
  refine zM_of (by decide) (Nat.le_of_ble_eq_true rfl) (fun p e s m args below meth c ls ha X J hl => ?_)
  have hx := X.1
  have hb := X.2.1
  have hl : lv_has ls 3 [(0, .ref (ad 0)), (1, .int a1_)] := hl
  generalize s.heap = H at J ⊢
  generalize ([] : List Loc) = locs at J ⊢
  show W p l e (zRm (4)) s m args below meth c H locs 0 0 (zQi D cy shR ad ts lnR below args s (r, u)) (F0 m 0 ls [])
  unfold fX12_itemOf at hf
  refine lv_aload_n hx hb dX12_itemOf_0 rfl (lv_at hl 0 rfl) ?_
  refine lv_iconst (v := (4 : Int32)) hx hb dX12_itemOf_1 (by decide) ?_
  obtain ⟨r1, σ2, hc, hf⟩ := obd_some hf
  refine zr_calli (As := [.int (4 : Int32)]) (rest := []) X J 0 ho_R_X12.1 ho_R_X12.2.1 ho_R_X12.2.2 yy_X12_node mw_methodLink_TinyCModel_330_TinyCModel_node_II (d := 0) (zR_ok (by omega) (by decide)) hl.1 rfl (Nat.le_of_ble_eq_true rfl) (tX12_node  hc) dX12_itemOf_2 (fun H locs J => ?_)
  refine lv_istore_n hx hb dX12_itemOf_5 rfl hl (by decide) rfl (fun ls hl => ?_)
  have hl : lv_has ls 3 [(2, .int r1), (0, .ref (ad 0)), (1, .int a1_)] := hl
  refine lv_aload_n hx hb dX12_itemOf_6 rfl (lv_at hl 1 rfl) ?_
  refine gf_X12_65 X J dX12_itemOf_7 ?_
  refine lv_iload_n hx hb dX12_itemOf_10 rfl (lv_at hl 0 rfl) ?_
  refine lv_aload_n hx hb dX12_itemOf_11 rfl (lv_at hl 1 rfl) ?_
  refine gf_X12_35 X J dX12_itemOf_12 ?_
  refine lv_iload_n hx hb dX12_itemOf_15 rfl (lv_at hl 2 rfl) ?_
  obtain ⟨hin, hf⟩ := itx hf
  refine al_X12_X12f25 X J hin dX12_itemOf_16 ?_
  obtain ⟨hin, hf⟩ := itx hf
  refine as_X12_X12f43 X J hin dX12_itemOf_17 (fun σ3 H locs eq J => ?_)
  have hf := bnd_eq eq hf
  clear eq
  refine lv_aload_n hx hb dX12_itemOf_18 rfl (lv_at hl 1 rfl) ?_
  refine gf_X12_68 X J dX12_itemOf_19 ?_
  refine lv_iload_n hx hb dX12_itemOf_22 rfl (lv_at hl 0 rfl) ?_
  refine lv_aload_n hx hb dX12_itemOf_23 rfl (lv_at hl 1 rfl) ?_
  refine gf_X12_38 X J dX12_itemOf_24 ?_
  refine lv_iload_n hx hb dX12_itemOf_27 rfl (lv_at hl 2 rfl) ?_
  obtain ⟨hin, hf⟩ := itx hf
  refine al_X12_X12f26 X J hin dX12_itemOf_28 ?_
  obtain ⟨hin, hf⟩ := itx hf
  refine as_X12_X12f44 X J hin dX12_itemOf_29 (fun σ4 H locs eq J => ?_)
  have hf := bnd_eq eq hf
  clear eq
  refine lv_aload_n hx hb dX12_itemOf_30 rfl (lv_at hl 1 rfl) ?_
  refine lv_bipush (v := (91 : Int32)) hx hb dX12_itemOf_31 (by decide) ?_
  obtain ⟨r5, σ6, hc, hf⟩ := obd_some hf
  refine zr_callv (As := [.int (91 : Int32)]) (rest := []) X J 0 ho_R_X12.1 ho_R_X12.2.1 ho_R_X12.2.2 yy_X12_opens mw_methodLink_TinyCModel_300_TinyCModel_opens_IV (d := 3) (zR_ok (by omega) (by decide)) hl.1 rfl (Nat.le_of_ble_eq_true rfl) (tX12_opens  hc) dX12_itemOf_33 (fun H locs J => ?_)
  refine lv_aload_n hx hb dX12_itemOf_36 rfl (lv_at hl 1 rfl) ?_
  obtain ⟨r7, σ8, hc, hf⟩ := obd_some hf
  refine zr_calli (As := []) (rest := []) X J 0 ho_R_X12.1 ho_R_X12.2.1 ho_R_X12.2.2 yy_X12_isWell mw_methodLink_TinyCModel_243_TinyCModel_isWell_Z (d := 0) (zR_ok (by omega) (by decide)) hl.1 rfl (Nat.le_of_ble_eq_true rfl) (tX12_isWell  hc) dX12_itemOf_37 (fun H locs J => ?_)
  refine lv_if_eq hx hb dX12_itemOf_40 rfl (fun h => ?_) (fun h => ?_)
  · have hf := itp h hf
    refine lv_iconst (v := (-1 : Int32)) hx hb dX12_itemOf_50 (by decide) ?_
    exact zr_iret X J hf dX12_itemOf_51
  · have hf := itn h hf
    refine lv_aload_n hx hb dX12_itemOf_43 rfl (lv_at hl 1 rfl) ?_
    refine lv_iconst (v := (2 : Int32)) hx hb dX12_itemOf_44 (by decide) ?_
    refine lv_iload_n hx hb dX12_itemOf_45 rfl (lv_at hl 0 rfl) ?_
    refine lv_iconst (v := (-1 : Int32)) hx hb dX12_itemOf_46 (by decide) ?_
    obtain ⟨r9, σ10, hc, hf⟩ := obd_some hf
    refine zr_callv (As := [.int (2 : Int32), .int r1, .int (-1 : Int32)]) (rest := []) X J 0 ho_R_X12.1 ho_R_X12.2.1 ho_R_X12.2.2 yy_X12_waits mw_methodLink_TinyCModel_373_TinyCModel_waits_IIIV (d := 0) (zR_ok (by omega) (by decide)) hl.1 rfl (Nat.le_of_ble_eq_true rfl) (tX12_waits  hc) dX12_itemOf_47 (fun H locs J => ?_)
    refine lv_iconst (v := (-1 : Int32)) hx hb dX12_itemOf_50 (by decide) ?_
    exact zr_iret X J hf dX12_itemOf_51
set_option maxHeartbeats 4000000 in
theorem bX12_endsCall_27 {o : Int32 × zSt} (X : zX p s m args meth c D cy shR ad ts cX12_endsCall 3 (some .int) RX12)  {x1_ : Int32}  {σ : zSt} {H : Heap} {locs : List Loc} {ls : Array Slot} (J : zJ D cy shR ad lnR s σ H locs) (hl : lv_has ls 3 [(0, .ref (ad 0)), (1, .int x1_)]) (hf : fX12_endsCall_b27 N  x1_ σ = some o) : W p l e (zRm (5)) s m args below meth c H locs 0 0 (zQi D cy shR ad ts lnR below args s o) (F0 m 27 ls []) := by
  have hx := X.1
  have hb := X.2.1
  unfold fX12_endsCall_b27 at hf
  refine lv_aload_n hx hb dX12_endsCall_27 rfl (lv_at hl 0 rfl) ?_
  refine lv_bipush (v := (41 : Int32)) hx hb dX12_endsCall_28 (by decide) ?_
  obtain ⟨r1, σ2, hc, hf⟩ := obd_some hf
  refine zr_callv (As := [.int (41 : Int32)]) (rest := []) X J 0 ho_R_X12.1 ho_R_X12.2.1 ho_R_X12.2.2 yy_X12_closes mw_methodLink_TinyCModel_307_TinyCModel_closes_IV (d := 4) (zR_ok (by omega) (by decide)) hl.1 rfl (Nat.le_of_ble_eq_true rfl) (tX12_closes  hc) dX12_endsCall_30 (fun H locs J => ?_)
  refine lv_aload_n hx hb dX12_endsCall_33 rfl (lv_at hl 0 rfl) ?_
  refine lv_dup hx hb dX12_endsCall_34 rfl ?_
  refine gf_X12_370 X J dX12_endsCall_35 ?_
  refine lv_iconst (v := (1 : Int32)) hx hb dX12_endsCall_38 (by decide) ?_
  refine lv_isub hx hb dX12_endsCall_39 ?_
  refine pf_X12_370 X J dX12_endsCall_40 (fun σ3 H locs eq J => ?_)
  have hf := bnd_eq eq hf
  clear eq
  refine lv_iload_n hx hb dX12_endsCall_43 rfl (lv_at hl 1 rfl) ?_
  exact zr_iret X J hf dX12_endsCall_44
set_option maxHeartbeats 4000000 in
theorem tX12_endsCall {a1_ : Int32} {a2_ : Int32}  {σ u : zSt} {r : Int32} (hf : fX12_endsCall N a1_ a2_ σ = some (r, u)) : zMi l yX12_endsCall cX12_endsCall 3 (some .int) (5) D cy shR ad ts lnR [.ref (ad 0), .int a1_, .int a2_] σ r u := by
  refine zM_of (by decide) (Nat.le_of_ble_eq_true rfl) (fun p e s m args below meth c ls ha X J hl => ?_)
  have hx := X.1
  have hb := X.2.1
  have hl : lv_has ls 3 [(0, .ref (ad 0)), (1, .int a1_), (2, .int a2_)] := hl
  generalize s.heap = H at J ⊢
  generalize ([] : List Loc) = locs at J ⊢
  show W p l e (zRm (5)) s m args below meth c H locs 0 0 (zQi D cy shR ad ts lnR below args s (r, u)) (F0 m 0 ls [])
  unfold fX12_endsCall at hf
  refine lv_aload_n hx hb dX12_endsCall_0 rfl (lv_at hl 0 rfl) ?_
  refine gf_X12_68 X J dX12_endsCall_1 ?_
  refine lv_iload_n hx hb dX12_endsCall_4 rfl (lv_at hl 1 rfl) ?_
  obtain ⟨hin, hf⟩ := itx hf
  refine al_X12_X12f44 X J hin dX12_endsCall_5 ?_
  refine lv_aload_n hx hb dX12_endsCall_6 rfl (lv_at hl 0 rfl) ?_
  refine gf_X12_38 X J dX12_endsCall_7 ?_
  refine lv_aload_n hx hb dX12_endsCall_10 rfl (lv_at hl 0 rfl) ?_
  refine gf_X12_65 X J dX12_endsCall_11 ?_
  refine lv_iload_n hx hb dX12_endsCall_14 rfl (lv_at hl 1 rfl) ?_
  obtain ⟨hin, hf⟩ := itx hf
  refine al_X12_X12f43 X J hin dX12_endsCall_15 ?_
  obtain ⟨hin, hf⟩ := itx hf
  refine al_X12_X12f26 X J hin dX12_endsCall_16 ?_
  refine lv_icmp_eq hx hb dX12_endsCall_17 rfl (fun h => ?_) (fun h => ?_)
  · have hf := itp h hf
    exact bX12_endsCall_27 X   J (lv_sub hl [0, 1] rfl) hf
  · have hf := itn h hf
    refine lv_aload_n hx hb dX12_endsCall_20 rfl (lv_at hl 0 rfl) ?_
    refine lv_bipush (v := (6 : Int32)) hx hb dX12_endsCall_21 (by decide) ?_
    refine lv_iload_n hx hb dX12_endsCall_23 rfl (lv_at hl 2 rfl) ?_
    obtain ⟨r4, σ5, hc, hf⟩ := obd_some hf
    refine zr_callv (As := [.int (6 : Int32), .int a2_]) (rest := []) X J 0 ho_R_X12.1 ho_R_X12.2.1 ho_R_X12.2.2 yy_X12_fails mw_methodLink_TinyCModel_239_TinyCModel_fails_IIV (d := 0) (zR_ok (by omega) (by decide)) hl.1 rfl (Nat.le_of_ble_eq_true rfl) (tX12_fails  hc) dX12_endsCall_24 (fun H locs J => ?_)
    exact bX12_endsCall_27 X   J (lv_sub hl [0, 1] rfl) hf
set_option maxHeartbeats 4000000 in
theorem tX12_call {a1_ : Int32} {a2_ : Int32}  {σ u : zSt} {r : Int32} (hf : fX12_call N a1_ a2_ σ = some (r, u)) : zMi l yX12_call cX12_call 4 (some .int) (6) D cy shR ad ts lnR [.ref (ad 0), .int a1_, .int a2_] σ r u := by
  refine zM_of (by decide) (Nat.le_of_ble_eq_true rfl) (fun p e s m args below meth c ls ha X J hl => ?_)
  have hx := X.1
  have hb := X.2.1
  have hl : lv_has ls 4 [(0, .ref (ad 0)), (1, .int a1_), (2, .int a2_)] := hl
  generalize s.heap = H at J ⊢
  generalize ([] : List Loc) = locs at J ⊢
  show W p l e (zRm (6)) s m args below meth c H locs 0 0 (zQi D cy shR ad ts lnR below args s (r, u)) (F0 m 0 ls [])
  unfold fX12_call at hf
  refine lv_aload_n hx hb dX12_call_0 rfl (lv_at hl 0 rfl) ?_
  refine lv_bipush (v := (9 : Int32)) hx hb dX12_call_1 (by decide) ?_
  obtain ⟨r1, σ2, hc, hf⟩ := obd_some hf
  refine zr_calli (As := [.int (9 : Int32)]) (rest := []) X J 0 ho_R_X12.1 ho_R_X12.2.1 ho_R_X12.2.2 yy_X12_node mw_methodLink_TinyCModel_330_TinyCModel_node_II (d := 0) (zR_ok (by omega) (by decide)) hl.1 rfl (Nat.le_of_ble_eq_true rfl) (tX12_node  hc) dX12_call_3 (fun H locs J => ?_)
  refine lv_istore_n hx hb dX12_call_6 rfl hl (by decide) rfl (fun ls hl => ?_)
  have hl : lv_has ls 4 [(3, .int r1), (0, .ref (ad 0)), (1, .int a1_), (2, .int a2_)] := hl
  refine lv_aload_n hx hb dX12_call_7 rfl (lv_at hl 1 rfl) ?_
  refine gf_X12_65 X J dX12_call_8 ?_
  refine lv_iload_n hx hb dX12_call_11 rfl (lv_at hl 0 rfl) ?_
  refine lv_iload_n hx hb dX12_call_12 rfl (lv_at hl 3 rfl) ?_
  obtain ⟨hin, hf⟩ := itx hf
  refine as_X12_X12f43 X J hin dX12_call_13 (fun σ3 H locs eq J => ?_)
  have hf := bnd_eq eq hf
  clear eq
  refine lv_aload_n hx hb dX12_call_14 rfl (lv_at hl 1 rfl) ?_
  refine lv_bipush (v := (40 : Int32)) hx hb dX12_call_15 (by decide) ?_
  obtain ⟨r4, σ5, hc, hf⟩ := obd_some hf
  refine zr_callv (As := [.int (40 : Int32)]) (rest := []) X J 0 ho_R_X12.1 ho_R_X12.2.1 ho_R_X12.2.2 yy_X12_opens mw_methodLink_TinyCModel_300_TinyCModel_opens_IV (d := 3) (zR_ok (by omega) (by decide)) hl.1 rfl (Nat.le_of_ble_eq_true rfl) (tX12_opens  hc) dX12_call_17 (fun H locs J => ?_)
  refine lv_aload_n hx hb dX12_call_20 rfl (lv_at hl 1 rfl) ?_
  obtain ⟨r6, σ7, hc, hf⟩ := obd_some hf
  refine zr_calli (As := []) (rest := []) X J 0 ho_R_X12.1 ho_R_X12.2.1 ho_R_X12.2.2 yy_X12_isWell mw_methodLink_TinyCModel_243_TinyCModel_isWell_Z (d := 0) (zR_ok (by omega) (by decide)) hl.1 rfl (Nat.le_of_ble_eq_true rfl) (tX12_isWell  hc) dX12_call_21 (fun H locs J => ?_)
  refine lv_if_ne hx hb dX12_call_24 rfl (fun h => ?_) (fun h => ?_)
  · have hf := itn h hf
    refine lv_aload_n hx hb dX12_call_29 rfl (lv_at hl 1 rfl) ?_
    refine lv_iconst (v := (3 : Int32)) hx hb dX12_call_30 (by decide) ?_
    refine lv_iload_n hx hb dX12_call_31 rfl (lv_at hl 0 rfl) ?_
    refine lv_iconst (v := (-1 : Int32)) hx hb dX12_call_32 (by decide) ?_
    obtain ⟨r8, σ9, hc, hf⟩ := obd_some hf
    refine zr_callv (As := [.int (3 : Int32), .int r1, .int (-1 : Int32)]) (rest := []) X J 0 ho_R_X12.1 ho_R_X12.2.1 ho_R_X12.2.2 yy_X12_waits mw_methodLink_TinyCModel_373_TinyCModel_waits_IIIV (d := 0) (zR_ok (by omega) (by decide)) hl.1 rfl (Nat.le_of_ble_eq_true rfl) (tX12_waits  hc) dX12_call_33 (fun H locs J => ?_)
    refine lv_aload_n hx hb dX12_call_36 rfl (lv_at hl 1 rfl) ?_
    refine gf_X12_105 X J dX12_call_37 ?_
    refine lv_aload_n hx hb dX12_call_40 rfl (lv_at hl 1 rfl) ?_
    refine gf_X12_370 X J dX12_call_41 ?_
    refine lv_iconst (v := (1 : Int32)) hx hb dX12_call_44 (by decide) ?_
    refine lv_isub hx hb dX12_call_45 ?_
    refine lv_iload_n hx hb dX12_call_46 rfl (lv_at hl 2 rfl) ?_
    obtain ⟨hin, hf⟩ := itx hf
    refine as_X12_X12f58 X J hin dX12_call_47 (fun σ10 H locs eq J => ?_)
    have hf := bnd_eq eq hf
    clear eq
    refine lv_aload_n hx hb dX12_call_48 rfl (lv_at hl 1 rfl) ?_
    refine lv_bipush (v := (41 : Int32)) hx hb dX12_call_49 (by decide) ?_
    obtain ⟨r11, σ12, hc, hf⟩ := obd_some hf
    refine zr_calli (As := [.int (41 : Int32)]) (rest := []) X J 0 ho_R_X12.1 ho_R_X12.2.1 ho_R_X12.2.2 yy_X12_isSign mw_methodLink_TinyCModel_247_TinyCModel_isSign_IZ (d := 1) (zR_ok (by omega) (by decide)) hl.1 rfl (Nat.le_of_ble_eq_true rfl) (tX12_isSign  hc) dX12_call_51 (fun H locs J => ?_)
    refine lv_if_eq hx hb dX12_call_54 rfl (fun h => ?_) (fun h => ?_)
    · have hf := itp h hf
      refine lv_iconst (v := (-1 : Int32)) hx hb dX12_call_66 (by decide) ?_
      exact zr_iret X J hf dX12_call_67
    · have hf := itn h hf
      refine lv_aload_n hx hb dX12_call_57 rfl (lv_at hl 1 rfl) ?_
      refine lv_iload_n hx hb dX12_call_58 rfl (lv_at hl 0 rfl) ?_
      refine lv_iload_n hx hb dX12_call_59 rfl (lv_at hl 2 rfl) ?_
      obtain ⟨r13, σ14, hc, hf⟩ := obd_some hf
      refine zr_calli (As := [.int r1, .int a1_]) (rest := []) X J 0 ho_R_X12.1 ho_R_X12.2.1 ho_R_X12.2.2 yy_X12_endsCall mw_methodLink_TinyCModel_401_TinyCModel_endsCall_III (d := 5) (zR_ok (by omega) (by decide)) hl.1 rfl (Nat.le_of_ble_eq_true rfl) (tX12_endsCall  hc) dX12_call_60 (fun H locs J => ?_)
      refine lv_goto hx hb dX12_call_63 rfl ?_
      exact zr_iret X J hf dX12_call_67
  · have hf := itp h hf
    refine lv_iconst (v := (-1 : Int32)) hx hb dX12_call_27 (by decide) ?_
    exact zr_iret X J hf dX12_call_28
set_option maxHeartbeats 4000000 in
theorem tX12_level {a0_ : Int64}  {σ u : zSt} {r : Int32} (hf : fX12_level N a0_ σ = some (r, u)) : zMi l yX12_level cX12_level 2 (some .int) (0) D cy shR ad ts lnR [.long a0_] σ r u := by
  refine zM_of (by decide) (Nat.le_of_ble_eq_true rfl) (fun p e s m args below meth c ls ha X J hl => ?_)
  have hx := X.1
  have hb := X.2.1
  have hl : lv_has ls 2 [(0, .long a0_)] := hl
  generalize s.heap = H at J ⊢
  generalize ([] : List Loc) = locs at J ⊢
  show W p l e (zRm (0)) s m args below meth c H locs 0 0 (zQi D cy shR ad ts lnR below args s (r, u)) (F0 m 0 ls [])
  unfold fX12_level at hf
  refine lv_lload_n hx hb dX12_level_0 rfl (lv_at hl 0 rfl) ?_
  refine lv_l2i hx hb dX12_level_1 rfl ?_
  refine lv_topi (fun x1 eq => ?_)
  have hf := bnd_eq eq hf
  clear eq
  by_cases h0_ : x1 = (37 : Int32)
  · have hf := itp h0_ hf
    rw [h0_]
    refine lv_lookup hx hb dX12_level_2 (by decide) (tgt := 177) (by rfl) (by decide) ?_
    refine lv_bipush (v := (9 : Int32)) hx hb dX12_level_177 (by decide) ?_
    exact zr_iret X J hf dX12_level_179
  have hf := itn h0_ hf
  by_cases h1_ : x1 = (38 : Int32)
  · have hf := itp h1_ hf
    rw [h1_]
    refine lv_lookup hx hb dX12_level_2 (by decide) (tgt := 164) (by rfl) (by decide) ?_
    refine lv_iconst (v := (4 : Int32)) hx hb dX12_level_164 (by decide) ?_
    exact zr_iret X J hf dX12_level_165
  have hf := itn h1_ hf
  by_cases h2_ : x1 = (42 : Int32)
  · have hf := itp h2_ hf
    rw [h2_]
    refine lv_lookup hx hb dX12_level_2 (by decide) (tgt := 177) (by rfl) (by decide) ?_
    refine lv_bipush (v := (9 : Int32)) hx hb dX12_level_177 (by decide) ?_
    exact zr_iret X J hf dX12_level_179
  have hf := itn h2_ hf
  by_cases h3_ : x1 = (43 : Int32)
  · have hf := itp h3_ hf
    rw [h3_]
    refine lv_lookup hx hb dX12_level_2 (by decide) (tgt := 174) (by rfl) (by decide) ?_
    refine lv_bipush (v := (8 : Int32)) hx hb dX12_level_174 (by decide) ?_
    exact zr_iret X J hf dX12_level_176
  have hf := itn h3_ hf
  by_cases h4_ : x1 = (45 : Int32)
  · have hf := itp h4_ hf
    rw [h4_]
    refine lv_lookup hx hb dX12_level_2 (by decide) (tgt := 174) (by rfl) (by decide) ?_
    refine lv_bipush (v := (8 : Int32)) hx hb dX12_level_174 (by decide) ?_
    exact zr_iret X J hf dX12_level_176
  have hf := itn h4_ hf
  by_cases h5_ : x1 = (47 : Int32)
  · have hf := itp h5_ hf
    rw [h5_]
    refine lv_lookup hx hb dX12_level_2 (by decide) (tgt := 177) (by rfl) (by decide) ?_
    refine lv_bipush (v := (9 : Int32)) hx hb dX12_level_177 (by decide) ?_
    exact zr_iret X J hf dX12_level_179
  have hf := itn h5_ hf
  by_cases h6_ : x1 = (60 : Int32)
  · have hf := itp h6_ hf
    rw [h6_]
    refine lv_lookup hx hb dX12_level_2 (by decide) (tgt := 168) (by rfl) (by decide) ?_
    refine lv_bipush (v := (6 : Int32)) hx hb dX12_level_168 (by decide) ?_
    exact zr_iret X J hf dX12_level_170
  have hf := itn h6_ hf
  by_cases h7_ : x1 = (62 : Int32)
  · have hf := itp h7_ hf
    rw [h7_]
    refine lv_lookup hx hb dX12_level_2 (by decide) (tgt := 168) (by rfl) (by decide) ?_
    refine lv_bipush (v := (6 : Int32)) hx hb dX12_level_168 (by decide) ?_
    exact zr_iret X J hf dX12_level_170
  have hf := itn h7_ hf
  by_cases h8_ : x1 = (94 : Int32)
  · have hf := itp h8_ hf
    rw [h8_]
    refine lv_lookup hx hb dX12_level_2 (by decide) (tgt := 162) (by rfl) (by decide) ?_
    refine lv_iconst (v := (3 : Int32)) hx hb dX12_level_162 (by decide) ?_
    exact zr_iret X J hf dX12_level_163
  have hf := itn h8_ hf
  by_cases h9_ : x1 = (124 : Int32)
  · have hf := itp h9_ hf
    rw [h9_]
    refine lv_lookup hx hb dX12_level_2 (by decide) (tgt := 160) (by rfl) (by decide) ?_
    refine lv_iconst (v := (2 : Int32)) hx hb dX12_level_160 (by decide) ?_
    exact zr_iret X J hf dX12_level_161
  have hf := itn h9_ hf
  by_cases h10_ : x1 = (8509 : Int32)
  · have hf := itp h10_ hf
    rw [h10_]
    refine lv_lookup hx hb dX12_level_2 (by decide) (tgt := 166) (by rfl) (by decide) ?_
    refine lv_iconst (v := (5 : Int32)) hx hb dX12_level_166 (by decide) ?_
    exact zr_iret X J hf dX12_level_167
  have hf := itn h10_ hf
  by_cases h11_ : x1 = (9766 : Int32)
  · have hf := itp h11_ hf
    rw [h11_]
    refine lv_lookup hx hb dX12_level_2 (by decide) (tgt := 158) (by rfl) (by decide) ?_
    refine lv_iconst (v := (1 : Int32)) hx hb dX12_level_158 (by decide) ?_
    exact zr_iret X J hf dX12_level_159
  have hf := itn h11_ hf
  by_cases h12_ : x1 = (15420 : Int32)
  · have hf := itp h12_ hf
    rw [h12_]
    refine lv_lookup hx hb dX12_level_2 (by decide) (tgt := 171) (by rfl) (by decide) ?_
    refine lv_bipush (v := (7 : Int32)) hx hb dX12_level_171 (by decide) ?_
    exact zr_iret X J hf dX12_level_173
  have hf := itn h12_ hf
  by_cases h13_ : x1 = (15421 : Int32)
  · have hf := itp h13_ hf
    rw [h13_]
    refine lv_lookup hx hb dX12_level_2 (by decide) (tgt := 168) (by rfl) (by decide) ?_
    refine lv_bipush (v := (6 : Int32)) hx hb dX12_level_168 (by decide) ?_
    exact zr_iret X J hf dX12_level_170
  have hf := itn h13_ hf
  by_cases h14_ : x1 = (15677 : Int32)
  · have hf := itp h14_ hf
    rw [h14_]
    refine lv_lookup hx hb dX12_level_2 (by decide) (tgt := 166) (by rfl) (by decide) ?_
    refine lv_iconst (v := (5 : Int32)) hx hb dX12_level_166 (by decide) ?_
    exact zr_iret X J hf dX12_level_167
  have hf := itn h14_ hf
  by_cases h15_ : x1 = (15933 : Int32)
  · have hf := itp h15_ hf
    rw [h15_]
    refine lv_lookup hx hb dX12_level_2 (by decide) (tgt := 168) (by rfl) (by decide) ?_
    refine lv_bipush (v := (6 : Int32)) hx hb dX12_level_168 (by decide) ?_
    exact zr_iret X J hf dX12_level_170
  have hf := itn h15_ hf
  by_cases h16_ : x1 = (15934 : Int32)
  · have hf := itp h16_ hf
    rw [h16_]
    refine lv_lookup hx hb dX12_level_2 (by decide) (tgt := 171) (by rfl) (by decide) ?_
    refine lv_bipush (v := (7 : Int32)) hx hb dX12_level_171 (by decide) ?_
    exact zr_iret X J hf dX12_level_173
  have hf := itn h16_ hf
  by_cases h17_ : x1 = (31868 : Int32)
  · have hf := itp h17_ hf
    rw [h17_]
    refine lv_lookup hx hb dX12_level_2 (by decide) (tgt := 156) (by rfl) (by decide) ?_
    refine lv_iconst (v := (0 : Int32)) hx hb dX12_level_156 (by decide) ?_
    exact zr_iret X J hf dX12_level_157
  have hf := itn h17_ hf
  refine lv_lookup hx hb dX12_level_2 (by decide) (off := 178) (tgt := 180) (by simp only []; rw [lv_osw h0_ (by decide), lv_osw h1_ (by decide), lv_osw h2_ (by decide), lv_osw h3_ (by decide), lv_osw h4_ (by decide), lv_osw h5_ (by decide), lv_osw h6_ (by decide), lv_osw h7_ (by decide), lv_osw h8_ (by decide), lv_osw h9_ (by decide), lv_osw h10_ (by decide), lv_osw h11_ (by decide), lv_osw h12_ (by decide), lv_osw h13_ (by decide), lv_osw h14_ (by decide), lv_osw h15_ (by decide), lv_osw h16_ (by decide), lv_osw h17_ (by decide)] <;> rfl) (by decide) ?_
  refine lv_iconst (v := (-1 : Int32)) hx hb dX12_level_180 (by decide) ?_
  exact zr_iret X J hf dX12_level_181
set_option maxHeartbeats 4000000 in
theorem bX12_follows_27 {o : Int32 × zSt} (X : zX p s m args meth c D cy shR ad ts cX12_follows 3 (some .boolean) RX12) {k7 : Int32 → zSt → Option (Int32 × zSt)} (hk7 : ∀ (x1_ : Int32) (σ : zSt) (H : Heap) (locs : List Loc) (ls : Array Slot), zJ D cy shR ad lnR s σ H locs → lv_has ls 3 [(0, .ref (ad 0)), (1, .int x1_)] → k7 x1_ σ = some o → W p l e (zRm (1)) s m args below meth c H locs 0 0 (zQi D cy shR ad ts lnR below args s o) (F0 m 7 ls [])) {x1_ : Int32}  {σ : zSt} {H : Heap} {locs : List Loc} {ls : Array Slot} (J : zJ D cy shR ad lnR s σ H locs) (hl : lv_has ls 3 [(0, .ref (ad 0)), (1, .int x1_)]) (hf : fX12_follows_b27 N k7 x1_ σ = some o) : W p l e (zRm (1)) s m args below meth c H locs 0 0 (zQi D cy shR ad ts lnR below args s o) (F0 m 27 ls []) := by
  have hx := X.1
  have hb := X.2.1
  unfold fX12_follows_b27 at hf
  obtain ⟨x2, eq⟩ : ∃ z, z = x1_ + (-1 : Int32) := ⟨_, rfl⟩
  have hf := bnd_eq eq hf
  refine lv_iinc hx hb dX12_follows_27 hl (k := 1) rfl (v := x2) (by rw [eq]; rfl) (by decide) rfl (fun ls hl => ?_)
  clear eq
  have hl : lv_has ls 3 [(1, .int x2), (0, .ref (ad 0))] := hl
  refine lv_goto hx hb dX12_follows_30 rfl ?_
  exact hk7 _ _ _ _ _ J (lv_sub hl [1, 0] rfl) hf
set_option maxHeartbeats 4000000 in
theorem bX12_follows_118 {o : Int32 × zSt} (X : zX p s m args meth c D cy shR ad ts cX12_follows 3 (some .boolean) RX12)    {σ : zSt} {H : Heap} {locs : List Loc} {ls : Array Slot} (J : zJ D cy shR ad lnR s σ H locs) (hl : lv_has ls 3 []) (hf : fX12_follows_b118 N   σ = some o) : W p l e (zRm (1)) s m args below meth c H locs 0 0 (zQi D cy shR ad ts lnR below args s o) (F0 m 118 ls []) := by
  have hx := X.1
  have hb := X.2.1
  unfold fX12_follows_b118 at hf
  refine lv_iconst (v := (1 : Int32)) hx hb dX12_follows_118 (by decide) ?_
  refine lv_goto hx hb dX12_follows_119 rfl ?_
  exact zr_zretc X J (by decide) hf dX12_follows_123
set_option maxHeartbeats 4000000 in
theorem bX12_follows_68 {o : Int32 × zSt} (X : zX p s m args meth c D cy shR ad ts cX12_follows 3 (some .boolean) RX12)  {x1_ : Int32} {s0_ : Int32}  {σ : zSt} {H : Heap} {locs : List Loc} {ls : Array Slot} (J : zJ D cy shR ad lnR s σ H locs) (hl : lv_has ls 3 [(0, .ref (ad 0)), (1, .int x1_)]) (hf : fX12_follows_b68 N  x1_ s0_ σ = some o) : W p l e (zRm (1)) s m args below meth c H locs 0 0 (zQi D cy shR ad ts lnR below args s o) (F0 m 68 ls [.int s0_]) := by
  have hx := X.1
  have hb := X.2.1
  unfold fX12_follows_b68 at hf
  refine lv_istore_n hx hb dX12_follows_68 rfl hl (by decide) rfl (fun ls hl => ?_)
  have hl : lv_has ls 3 [(2, .int s0_), (0, .ref (ad 0)), (1, .int x1_)] := hl
  refine lv_aload_n hx hb dX12_follows_69 rfl (lv_at hl 1 rfl) ?_
  refine gf_X12_206 X J dX12_follows_70 ?_
  refine lv_iconst (v := (4 : Int32)) hx hb dX12_follows_73 (by decide) ?_
  refine lv_icmp_ne hx hb dX12_follows_74 rfl (fun h => ?_) (fun h => ?_)
  · have hf := itn h hf
    refine lv_iconst (v := (0 : Int32)) hx hb dX12_follows_122 (by decide) ?_
    exact zr_zretc X J (by decide) hf dX12_follows_123
  · have hf := itp h hf
    refine lv_aload_n hx hb dX12_follows_77 rfl (lv_at hl 1 rfl) ?_
    refine gf_X12_202 X J dX12_follows_78 ?_
    obtain ⟨r3, σ4, hc, hf⟩ := obd_some hf
    refine zr_callSi (As := [.long (zL σ 0 20)]) (rest := []) X J yy_X12_level mw_methodLink_TinyCModel_386_TinyCModel_level_JI (d := 0) (zR_ok (by omega) (by decide)) hl.1 rfl (Nat.le_of_ble_eq_true rfl) (tX12_level  hc) dX12_follows_81 (fun H locs J => ?_)
    refine lv_if_ge hx hb dX12_follows_84 rfl (fun h => ?_) (fun h => ?_)
    · have hf := itp h hf
      exact bX12_follows_118 X   J (lv_sub hl [] rfl) hf
    · have hf := itn h hf
      refine lv_aload_n hx hb dX12_follows_87 rfl (lv_at hl 1 rfl) ?_
      refine gf_X12_202 X J dX12_follows_88 ?_
      refine lv_iload_n hx hb dX12_follows_91 rfl (lv_at hl 0 rfl) ?_
      refine lv_i2l hx hb dX12_follows_92 rfl ?_
      refine W.lcmp hx hb dX12_follows_93 ?_
      refine lv_if_eq hx hb dX12_follows_94 rfl (fun h => ?_) (fun h => ?_)
      · have hf := itp h hf
        exact bX12_follows_118 X   J (lv_sub hl [] rfl) hf
      · have hf := itn h hf
        refine lv_aload_n hx hb dX12_follows_97 rfl (lv_at hl 1 rfl) ?_
        refine gf_X12_96 X J dX12_follows_98 ?_
        refine lv_iload_n hx hb dX12_follows_101 rfl (lv_at hl 2 rfl) ?_
        obtain ⟨hin, hf⟩ := itx hf
        refine al_X12_X12f55 X J hin dX12_follows_102 ?_
        refine lv_iconst (v := (3 : Int32)) hx hb dX12_follows_103 (by decide) ?_
        refine lv_icmp_ne hx hb dX12_follows_104 rfl (fun h => ?_) (fun h => ?_)
        · have hf := itn h hf
          refine lv_iconst (v := (0 : Int32)) hx hb dX12_follows_122 (by decide) ?_
          exact zr_zretc X J (by decide) hf dX12_follows_123
        · have hf := itp h hf
          refine lv_aload_n hx hb dX12_follows_107 rfl (lv_at hl 1 rfl) ?_
          refine gf_X12_202 X J dX12_follows_108 ?_
          refine lv_ldc2 (v := (44 : Int64)) hx hb X.2.2.2.1 (X.2.2.2.2.1 _ mw_constantLong_TinyCModel_413) dX12_follows_111 ?_
          refine W.lcmp hx hb dX12_follows_114 ?_
          refine lv_if_ne hx hb dX12_follows_115 rfl (fun h => ?_) (fun h => ?_)
          · have hf := itn h hf
            refine lv_iconst (v := (0 : Int32)) hx hb dX12_follows_122 (by decide) ?_
            exact zr_zretc X J (by decide) hf dX12_follows_123
          · have hf := itp h hf
            exact bX12_follows_118 X   J (lv_sub hl [] rfl) hf
set_option maxHeartbeats 4000000 in
theorem bX12_follows_7 {o : Int32 × zSt} (X : zX p s m args meth c D cy shR ad ts cX12_follows 3 (some .boolean) RX12)  : ∀ (n : Nat) (x1_ : Int32) (σ : zSt) (H : Heap) (locs : List Loc) (ls : Array Slot), zJ D cy shR ad lnR s σ H locs → lv_has ls 3 [(0, .ref (ad 0)), (1, .int x1_)] → fX12_follows_b7 N  n x1_ σ = some o → W p l e (zRm (1)) s m args below meth c H locs 0 0 (zQi D cy shR ad ts lnR below args s o) (F0 m 7 ls []) := by
  have hx := X.1
  have hb := X.2.1
  intro n
  induction n with
  | zero =>
    intro x1_ σ H locs ls J hl hf
    rw [fX12_follows_b7] at hf
    cases hf
  | succ n ih =>
    intro x1_ σ H locs ls J hl hf
    rw [fX12_follows_b7] at hf
    refine lv_aload_n hx hb dX12_follows_7 rfl (lv_at hl 0 rfl) ?_
    refine gf_X12_96 X J dX12_follows_8 ?_
    refine lv_iload_n hx hb dX12_follows_11 rfl (lv_at hl 1 rfl) ?_
    obtain ⟨hin, hf⟩ := itx hf
    refine al_X12_X12f55 X J hin dX12_follows_12 ?_
    refine lv_iconst (v := (4 : Int32)) hx hb dX12_follows_13 (by decide) ?_
    refine lv_icmp_eq hx hb dX12_follows_14 rfl (fun h => ?_) (fun h => ?_)
    · have hf := itp h hf
      exact bX12_follows_27 X ih  J (lv_sub hl [0, 1] rfl) hf
    · have hf := itn h hf
      refine lv_aload_n hx hb dX12_follows_17 rfl (lv_at hl 0 rfl) ?_
      refine gf_X12_96 X J dX12_follows_18 ?_
      refine lv_iload_n hx hb dX12_follows_21 rfl (lv_at hl 1 rfl) ?_
      obtain ⟨hin, hf⟩ := itx hf
      refine al_X12_X12f55 X J hin dX12_follows_22 ?_
      refine lv_iconst (v := (5 : Int32)) hx hb dX12_follows_23 (by decide) ?_
      refine lv_icmp_ne hx hb dX12_follows_24 rfl (fun h => ?_) (fun h => ?_)
      · have hf := itn h hf
        refine lv_aload_n hx hb dX12_follows_33 rfl (lv_at hl 0 rfl) ?_
        refine gf_X12_96 X J dX12_follows_34 ?_
        refine lv_iload_n hx hb dX12_follows_37 rfl (lv_at hl 1 rfl) ?_
        obtain ⟨hin, hf⟩ := itx hf
        refine al_X12_X12f55 X J hin dX12_follows_38 ?_
        refine lv_if_ne hx hb dX12_follows_39 rfl (fun h => ?_) (fun h => ?_)
        · have hf := itn h hf
          refine lv_aload_n hx hb dX12_follows_51 rfl (lv_at hl 0 rfl) ?_
          refine gf_X12_96 X J dX12_follows_52 ?_
          refine lv_iload_n hx hb dX12_follows_55 rfl (lv_at hl 1 rfl) ?_
          obtain ⟨hin, hf⟩ := itx hf
          refine al_X12_X12f55 X J hin dX12_follows_56 ?_
          refine lv_iconst (v := (2 : Int32)) hx hb dX12_follows_57 (by decide) ?_
          refine lv_icmp_ne hx hb dX12_follows_58 rfl (fun h => ?_) (fun h => ?_)
          · have hf := itn h hf
            refine lv_bipush (v := (41 : Int32)) hx hb dX12_follows_66 (by decide) ?_
            exact bX12_follows_68 X   J (lv_sub hl [0, 1] rfl) hf
          · have hf := itp h hf
            refine lv_bipush (v := (93 : Int32)) hx hb dX12_follows_61 (by decide) ?_
            refine lv_goto hx hb dX12_follows_63 rfl ?_
            exact bX12_follows_68 X   J (lv_sub hl [0, 1] rfl) hf
        · have hf := itp h hf
          refine lv_aload_n hx hb dX12_follows_42 rfl (lv_at hl 0 rfl) ?_
          refine gf_X12_102 X J dX12_follows_43 ?_
          refine lv_iload_n hx hb dX12_follows_46 rfl (lv_at hl 1 rfl) ?_
          obtain ⟨hin, hf⟩ := itx hf
          refine al_X12_X12f57 X J hin dX12_follows_47 ?_
          refine lv_goto hx hb dX12_follows_48 rfl ?_
          exact bX12_follows_68 X   J (lv_sub hl [0, 1] rfl) hf
      · have hf := itp h hf
        exact bX12_follows_27 X ih  J (lv_sub hl [0, 1] rfl) hf
set_option maxHeartbeats 4000000 in
theorem tX12_follows   {σ u : zSt} {r : Int32} (hf : fX12_follows N  σ = some (r, u)) : zMi l yX12_follows cX12_follows 3 (some .boolean) (1) D cy shR ad ts lnR [.ref (ad 0)] σ r u := by
  refine zM_of (by decide) (Nat.le_of_ble_eq_true rfl) (fun p e s m args below meth c ls ha X J hl => ?_)
  have hx := X.1
  have hb := X.2.1
  have hl : lv_has ls 3 [(0, .ref (ad 0))] := hl
  generalize s.heap = H at J ⊢
  generalize ([] : List Loc) = locs at J ⊢
  show W p l e (zRm (1)) s m args below meth c H locs 0 0 (zQi D cy shR ad ts lnR below args s (r, u)) (F0 m 0 ls [])
  unfold fX12_follows at hf
  refine lv_aload_n hx hb dX12_follows_0 rfl (lv_at hl 0 rfl) ?_
  refine gf_X12_370 X J dX12_follows_1 ?_
  refine lv_iconst (v := (1 : Int32)) hx hb dX12_follows_4 (by decide) ?_
  refine lv_isub hx hb dX12_follows_5 ?_
  refine lv_topi (fun x1 eq => ?_)
  have hf := bnd_eq eq hf
  clear eq
  refine lv_istore_n hx hb dX12_follows_6 rfl hl (by decide) rfl (fun ls hl => ?_)
  have hl : lv_has ls 3 [(1, .int x1), (0, .ref (ad 0))] := hl
  exact bX12_follows_7 X  N _ _ _ _ _ J (lv_sub hl [1, 0] rfl) hf
set_option maxHeartbeats 4000000 in
theorem bX12_nameIn_107 {o : Int32 × zSt} (X : zX p s m args meth c D cy shR ad ts cX12_nameIn 7 (some .int) RX12)  {x1_ : Int32} {x3_ : Int32} {x5_ : Int32} {s0_ : Int32} {s1_ : Int32}  {σ : zSt} {H : Heap} {locs : List Loc} {ls : Array Slot} (J : zJ D cy shR ad lnR s σ H locs) (hl : lv_has ls 7 [(0, .ref (ad 0)), (1, .int x1_), (3, .int x3_), (5, .int x5_)]) (hf : fX12_nameIn_b107 N  x1_ x3_ x5_ s0_ s1_ σ = some o) : W p l e (zRm (7)) s m args below meth c H locs 0 0 (zQi D cy shR ad ts lnR below args s o) (F0 m 107 ls [.int s0_, .int s1_]) := by
  have hx := X.1
  have hb := X.2.1
  unfold fX12_nameIn_b107 at hf
  refine lv_icmp_eq hx hb dX12_nameIn_107 rfl (fun h => ?_) (fun h => ?_)
  · have hf := itp h hf
    refine lv_iload hx hb dX12_nameIn_118 (lv_at hl 3 rfl) ?_
    refine lv_if_eq hx hb dX12_nameIn_120 rfl (fun h => ?_) (fun h => ?_)
    · have hf := itp h hf
      refine lv_aload_n hx hb dX12_nameIn_131 rfl (lv_at hl 0 rfl) ?_
      refine lv_iload_n hx hb dX12_nameIn_132 rfl (lv_at hl 1 rfl) ?_
      refine lv_iload_n hx hb dX12_nameIn_133 rfl (lv_at hl 2 rfl) ?_
      obtain ⟨r14, σ15, hc, hf⟩ := obd_some hf
      refine zr_calli (As := [.int x1_, .int x3_]) (rest := []) X J 0 ho_R_X12.1 ho_R_X12.2.1 ho_R_X12.2.2 yy_X12_call mw_methodLink_TinyCModel_380_TinyCModel_call_III (d := 6) (zR_ok (by omega) (by decide)) hl.1 rfl (Nat.le_of_ble_eq_true rfl) (tX12_call  hc) dX12_nameIn_134 (fun H locs J => ?_)
      exact zr_iret X J hf dX12_nameIn_137
    · have hf := itn h hf
      refine lv_aload_n hx hb dX12_nameIn_123 rfl (lv_at hl 0 rfl) ?_
      refine lv_iload_n hx hb dX12_nameIn_124 rfl (lv_at hl 2 rfl) ?_
      obtain ⟨r16, σ17, hc, hf⟩ := obd_some hf
      refine zr_calli (As := [.int x3_]) (rest := []) X J 0 ho_R_X12.1 ho_R_X12.2.1 ho_R_X12.2.2 yy_X12_itemOf mw_methodLink_TinyCModel_415_TinyCModel_itemOf_II (d := 4) (zR_ok (by omega) (by decide)) hl.1 rfl (Nat.le_of_ble_eq_true rfl) (tX12_itemOf  hc) dX12_nameIn_125 (fun H locs J => ?_)
      refine lv_goto hx hb dX12_nameIn_128 rfl ?_
      exact zr_iret X J hf dX12_nameIn_137
  · have hf := itn h hf
    refine lv_aload_n hx hb dX12_nameIn_110 rfl (lv_at hl 0 rfl) ?_
    refine lv_iconst (v := (5 : Int32)) hx hb dX12_nameIn_111 (by decide) ?_
    refine lv_iload_n hx hb dX12_nameIn_112 rfl (lv_at hl 1 rfl) ?_
    obtain ⟨r18, σ19, hc, hf⟩ := obd_some hf
    refine zr_callv (As := [.int (5 : Int32), .int x1_]) (rest := []) X J 0 ho_R_X12.1 ho_R_X12.2.1 ho_R_X12.2.2 yy_X12_fails mw_methodLink_TinyCModel_239_TinyCModel_fails_IIV (d := 0) (zR_ok (by omega) (by decide)) hl.1 rfl (Nat.le_of_ble_eq_true rfl) (tX12_fails  hc) dX12_nameIn_113 (fun H locs J => ?_)
    refine lv_iconst (v := (-1 : Int32)) hx hb dX12_nameIn_116 (by decide) ?_
    exact zr_iret X J hf dX12_nameIn_117
set_option maxHeartbeats 4000000 in
theorem bX12_nameIn_95 {o : Int32 × zSt} (X : zX p s m args meth c D cy shR ad ts cX12_nameIn 7 (some .int) RX12)  {x1_ : Int32} {x3_ : Int32} {x4_ : Int32} {x5_ : Int32}  {σ : zSt} {H : Heap} {locs : List Loc} {ls : Array Slot} (J : zJ D cy shR ad lnR s σ H locs) (hl : lv_has ls 7 [(0, .ref (ad 0)), (1, .int x1_), (3, .int x3_), (4, .int x4_), (5, .int x5_)]) (hf : fX12_nameIn_b95 N  x1_ x3_ x4_ x5_ σ = some o) : W p l e (zRm (7)) s m args below meth c H locs 0 0 (zQi D cy shR ad ts lnR below args s o) (F0 m 95 ls []) := by
  have hx := X.1
  have hb := X.2.1
  unfold fX12_nameIn_b95 at hf
  refine lv_iload hx hb dX12_nameIn_95 (lv_at hl 3 rfl) ?_
  refine lv_iload hx hb dX12_nameIn_97 (lv_at hl 4 rfl) ?_
  refine lv_if_eq hx hb dX12_nameIn_99 rfl (fun h => ?_) (fun h => ?_)
  · have hf := itp h hf
    refine lv_iconst (v := (2 : Int32)) hx hb dX12_nameIn_106 (by decide) ?_
    exact bX12_nameIn_107 X   J (lv_sub hl [0, 1, 2, 4] rfl) hf
  · have hf := itn h hf
    refine lv_iconst (v := (1 : Int32)) hx hb dX12_nameIn_102 (by decide) ?_
    refine lv_goto hx hb dX12_nameIn_103 rfl ?_
    exact bX12_nameIn_107 X   J (lv_sub hl [0, 1, 2, 4] rfl) hf
set_option maxHeartbeats 4000000 in
theorem bX12_nameIn_204 {o : Int32 × zSt} (X : zX p s m args meth c D cy shR ad ts cX12_nameIn 7 (some .int) RX12)  {x6_ : Int32} {s0_ : Int32} {s1_ : Int32}  {σ : zSt} {H : Heap} {locs : List Loc} {ls : Array Slot} (J : zJ D cy shR ad lnR s σ H locs) (hl : lv_has ls 7 [(6, .int x6_)]) (hf : fX12_nameIn_b204 N  x6_ s0_ s1_ σ = some o) : W p l e (zRm (7)) s m args below meth c H locs 0 0 (zQi D cy shR ad ts lnR below args s o) (F0 m 204 ls [.int s0_, .int s1_, .ref (ad 19)]) := by
  have hx := X.1
  have hb := X.2.1
  unfold fX12_nameIn_b204 at hf
  obtain ⟨hin, hf⟩ := itx hf
  refine as_X12_X12f43 X J hin dX12_nameIn_204 (fun σ26 H locs eq J => ?_)
  have hf := bnd_eq eq hf
  clear eq
  refine lv_iload hx hb dX12_nameIn_205 (lv_at hl 0 rfl) ?_
  exact zr_iret X J hf dX12_nameIn_207
set_option maxHeartbeats 4000000 in
theorem bX12_nameIn_174 {o : Int32 × zSt} (X : zX p s m args meth c D cy shR ad ts cX12_nameIn 7 (some .int) RX12)  {x2_ : Int32} {x3_ : Int32} {s0_ : Int32}  {σ : zSt} {H : Heap} {locs : List Loc} {ls : Array Slot} (J : zJ D cy shR ad lnR s σ H locs) (hl : lv_has ls 7 [(0, .ref (ad 0)), (2, .int x2_), (3, .int x3_)]) (hf : fX12_nameIn_b174 N  x2_ x3_ s0_ σ = some o) : W p l e (zRm (7)) s m args below meth c H locs 0 0 (zQi D cy shR ad ts lnR below args s o) (F0 m 174 ls [.int s0_, .ref (ad 0)]) := by
  have hx := X.1
  have hb := X.2.1
  unfold fX12_nameIn_b174 at hf
  obtain ⟨r24, σ25, hc, hf⟩ := obd_some hf
  refine zr_calli (As := [.int s0_]) (rest := []) X J 0 ho_R_X12.1 ho_R_X12.2.1 ho_R_X12.2.2 yy_X12_node mw_methodLink_TinyCModel_330_TinyCModel_node_II (d := 0) (zR_ok (by omega) (by decide)) hl.1 rfl (Nat.le_of_ble_eq_true rfl) (tX12_node  hc) dX12_nameIn_174 (fun H locs J => ?_)
  refine lv_istore hx hb dX12_nameIn_177 hl (by decide) rfl (fun ls hl => ?_)
  have hl : lv_has ls 7 [(6, .int r24), (0, .ref (ad 0)), (2, .int x2_), (3, .int x3_)] := hl
  refine lv_aload_n hx hb dX12_nameIn_179 rfl (lv_at hl 1 rfl) ?_
  refine gf_X12_65 X J dX12_nameIn_180 ?_
  refine lv_iload hx hb dX12_nameIn_183 (lv_at hl 0 rfl) ?_
  refine lv_iload_n hx hb dX12_nameIn_185 rfl (lv_at hl 2 rfl) ?_
  refine lv_if_lt hx hb dX12_nameIn_186 rfl (fun h => ?_) (fun h => ?_)
  · have hf := itp h hf
    refine lv_aload_n hx hb dX12_nameIn_198 rfl (lv_at hl 1 rfl) ?_
    refine gf_X12_35 X J dX12_nameIn_199 ?_
    refine lv_iload_n hx hb dX12_nameIn_202 rfl (lv_at hl 3 rfl) ?_
    obtain ⟨hin, hf⟩ := itx hf
    refine al_X12_X12f25 X J hin dX12_nameIn_203 ?_
    exact bX12_nameIn_204 X   J (lv_sub hl [0] rfl) hf
  · have hf := itn h hf
    refine lv_aload_n hx hb dX12_nameIn_189 rfl (lv_at hl 1 rfl) ?_
    refine gf_X12_50 X J dX12_nameIn_190 ?_
    refine lv_iload_n hx hb dX12_nameIn_193 rfl (lv_at hl 2 rfl) ?_
    obtain ⟨hin, hf⟩ := itx hf
    refine al_X12_X12f32 X J hin dX12_nameIn_194 ?_
    refine lv_goto hx hb dX12_nameIn_195 rfl ?_
    exact bX12_nameIn_204 X   J (lv_sub hl [0] rfl) hf
set_option maxHeartbeats 4000000 in
theorem bX12_nameIn_71 {o : Int32 × zSt} (X : zX p s m args meth c D cy shR ad ts cX12_nameIn 7 (some .int) RX12)  {x1_ : Int32} {x2_ : Int32} {x3_ : Int32} {s0_ : Int32}  {σ : zSt} {H : Heap} {locs : List Loc} {ls : Array Slot} (J : zJ D cy shR ad lnR s σ H locs) (hl : lv_has ls 7 [(0, .ref (ad 0)), (1, .int x1_), (2, .int x2_), (3, .int x3_)]) (hf : fX12_nameIn_b71 N  x1_ x2_ x3_ s0_ σ = some o) : W p l e (zRm (7)) s m args below meth c H locs 0 0 (zQi D cy shR ad ts lnR below args s o) (F0 m 71 ls [.int s0_]) := by
  have hx := X.1
  have hb := X.2.1
  unfold fX12_nameIn_b71 at hf
  refine lv_istore hx hb dX12_nameIn_71 hl (by decide) rfl (fun ls hl => ?_)
  have hl : lv_has ls 7 [(4, .int s0_), (0, .ref (ad 0)), (1, .int x1_), (2, .int x2_), (3, .int x3_)] := hl
  refine lv_aload_n hx hb dX12_nameIn_73 rfl (lv_at hl 1 rfl) ?_
  refine lv_bipush (v := (91 : Int32)) hx hb dX12_nameIn_74 (by decide) ?_
  obtain ⟨r12, σ13, hc, hf⟩ := obd_some hf
  refine zr_calli (As := [.int (91 : Int32)]) (rest := []) X J 0 ho_R_X12.1 ho_R_X12.2.1 ho_R_X12.2.2 yy_X12_isSign mw_methodLink_TinyCModel_247_TinyCModel_isSign_IZ (d := 1) (zR_ok (by omega) (by decide)) hl.1 rfl (Nat.le_of_ble_eq_true rfl) (tX12_isSign  hc) dX12_nameIn_76 (fun H locs J => ?_)
  refine lv_istore hx hb dX12_nameIn_79 hl (by decide) rfl (fun ls hl => ?_)
  have hl : lv_has ls 7 [(5, .int r12), (4, .int s0_), (0, .ref (ad 0)), (1, .int x1_), (2, .int x2_), (3, .int x3_)] := hl
  refine lv_iload hx hb dX12_nameIn_81 (lv_at hl 0 rfl) ?_
  refine lv_if_ne hx hb dX12_nameIn_83 rfl (fun h => ?_) (fun h => ?_)
  · have hf := itn h hf
    exact bX12_nameIn_95 X   J (lv_sub hl [2, 3, 5, 1, 0] rfl) hf
  · have hf := itp h hf
    refine lv_aload_n hx hb dX12_nameIn_86 rfl (lv_at hl 2 rfl) ?_
    refine lv_bipush (v := (40 : Int32)) hx hb dX12_nameIn_87 (by decide) ?_
    obtain ⟨r20, σ21, hc, hf⟩ := obd_some hf
    refine zr_calli (As := [.int (40 : Int32)]) (rest := []) X J 0 ho_R_X12.1 ho_R_X12.2.1 ho_R_X12.2.2 yy_X12_isSign mw_methodLink_TinyCModel_247_TinyCModel_isSign_IZ (d := 1) (zR_ok (by omega) (by decide)) hl.1 rfl (Nat.le_of_ble_eq_true rfl) (tX12_isSign  hc) dX12_nameIn_89 (fun H locs J => ?_)
    refine lv_if_eq hx hb dX12_nameIn_92 rfl (fun h => ?_) (fun h => ?_)
    · have hf := itp h hf
      refine lv_aload_n hx hb dX12_nameIn_138 rfl (lv_at hl 2 rfl) ?_
      obtain ⟨r22, σ23, hc, hf⟩ := obd_some hf
      refine zr_calli (As := []) (rest := []) X J 0 ho_R_X12.1 ho_R_X12.2.1 ho_R_X12.2.2 yy_X12_follows mw_methodLink_TinyCModel_418_TinyCModel_follows_Z (d := 1) (zR_ok (by omega) (by decide)) hl.1 rfl (Nat.le_of_ble_eq_true rfl) (tX12_follows  hc) dX12_nameIn_139 (fun H locs J => ?_)
      refine lv_if_ne hx hb dX12_nameIn_142 rfl (fun h => ?_) (fun h => ?_)
      · have hf := itn h hf
        refine lv_iload hx hb dX12_nameIn_151 (lv_at hl 1 rfl) ?_
        refine lv_if_eq hx hb dX12_nameIn_153 rfl (fun h => ?_) (fun h => ?_)
        · have hf := itp h hf
          refine lv_aload_n hx hb dX12_nameIn_164 rfl (lv_at hl 2 rfl) ?_
          refine lv_iload_n hx hb dX12_nameIn_165 rfl (lv_at hl 4 rfl) ?_
          refine lv_if_lt hx hb dX12_nameIn_166 rfl (fun h => ?_) (fun h => ?_)
          · have hf := itp h hf
            refine lv_iconst (v := (2 : Int32)) hx hb dX12_nameIn_173 (by decide) ?_
            exact bX12_nameIn_174 X   J (lv_sub hl [2, 4, 5] rfl) hf
          · have hf := itn h hf
            refine lv_iconst (v := (3 : Int32)) hx hb dX12_nameIn_169 (by decide) ?_
            refine lv_goto hx hb dX12_nameIn_170 rfl ?_
            exact bX12_nameIn_174 X   J (lv_sub hl [2, 4, 5] rfl) hf
        · have hf := itn h hf
          refine lv_aload_n hx hb dX12_nameIn_156 rfl (lv_at hl 2 rfl) ?_
          refine lv_iconst (v := (5 : Int32)) hx hb dX12_nameIn_157 (by decide) ?_
          refine lv_iload_n hx hb dX12_nameIn_158 rfl (lv_at hl 3 rfl) ?_
          obtain ⟨r27, σ28, hc, hf⟩ := obd_some hf
          refine zr_callv (As := [.int (5 : Int32), .int x1_]) (rest := []) X J 0 ho_R_X12.1 ho_R_X12.2.1 ho_R_X12.2.2 yy_X12_fails mw_methodLink_TinyCModel_239_TinyCModel_fails_IIV (d := 0) (zR_ok (by omega) (by decide)) hl.1 rfl (Nat.le_of_ble_eq_true rfl) (tX12_fails  hc) dX12_nameIn_159 (fun H locs J => ?_)
          refine lv_iconst (v := (-1 : Int32)) hx hb dX12_nameIn_162 (by decide) ?_
          exact zr_iret X J hf dX12_nameIn_163
      · have hf := itp h hf
        refine lv_aload_n hx hb dX12_nameIn_145 rfl (lv_at hl 2 rfl) ?_
        obtain ⟨r29, σ30, hc, hf⟩ := obd_some hf
        refine zr_callv (As := []) (rest := []) X J 0 ho_R_X12.1 ho_R_X12.2.1 ho_R_X12.2.2 yy_X12_stray mw_methodLink_TinyCModel_253_TinyCModel_stray_V (d := 1) (zR_ok (by omega) (by decide)) hl.1 rfl (Nat.le_of_ble_eq_true rfl) (tX12_stray  hc) dX12_nameIn_146 (fun H locs J => ?_)
        refine lv_iconst (v := (-1 : Int32)) hx hb dX12_nameIn_149 (by decide) ?_
        exact zr_iret X J hf dX12_nameIn_150
    · have hf := itn h hf
      exact bX12_nameIn_95 X   J (lv_sub hl [2, 3, 5, 1, 0] rfl) hf
set_option maxHeartbeats 4000000 in
theorem bX12_nameIn_39 {o : Int32 × zSt} (X : zX p s m args meth c D cy shR ad ts cX12_nameIn 7 (some .int) RX12)  {x1_ : Int32} {x2_ : Int32} {x3_ : Int32}  {σ : zSt} {H : Heap} {locs : List Loc} {ls : Array Slot} (J : zJ D cy shR ad lnR s σ H locs) (hl : lv_has ls 7 [(0, .ref (ad 0)), (1, .int x1_), (2, .int x2_), (3, .int x3_)]) (hf : fX12_nameIn_b39 N  x1_ x2_ x3_ σ = some o) : W p l e (zRm (7)) s m args below meth c H locs 0 0 (zQi D cy shR ad ts lnR below args s o) (F0 m 39 ls []) := by
  have hx := X.1
  have hb := X.2.1
  unfold fX12_nameIn_b39 at hf
  refine lv_aload_n hx hb dX12_nameIn_39 rfl (lv_at hl 0 rfl) ?_
  refine lv_iload_n hx hb dX12_nameIn_40 rfl (lv_at hl 1 rfl) ?_
  obtain ⟨r6, σ7, hc, hf⟩ := obd_some hf
  refine zr_callv (As := [.int x1_]) (rest := []) X J 0 ho_R_X12.1 ho_R_X12.2.1 ho_R_X12.2.2 yy_X12_four mw_methodLink_TinyCModel_293_TinyCModel_four_IV (d := 1) (zR_ok (by omega) (by decide)) hl.1 rfl (Nat.le_of_ble_eq_true rfl) (tX12_four  hc) dX12_nameIn_41 (fun H locs J => ?_)
  refine lv_aload_n hx hb dX12_nameIn_44 rfl (lv_at hl 0 rfl) ?_
  obtain ⟨r8, σ9, hc, hf⟩ := obd_some hf
  refine zr_calli (As := []) (rest := []) X J 0 ho_R_X12.1 ho_R_X12.2.1 ho_R_X12.2.2 yy_X12_isWell mw_methodLink_TinyCModel_243_TinyCModel_isWell_Z (d := 0) (zR_ok (by omega) (by decide)) hl.1 rfl (Nat.le_of_ble_eq_true rfl) (tX12_isWell  hc) dX12_nameIn_45 (fun H locs J => ?_)
  refine lv_if_ne hx hb dX12_nameIn_48 rfl (fun h => ?_) (fun h => ?_)
  · have hf := itn h hf
    refine lv_aload_n hx hb dX12_nameIn_53 rfl (lv_at hl 0 rfl) ?_
    obtain ⟨r10, σ11, hc, hf⟩ := obd_some hf
    refine zr_callv (As := []) (rest := []) X J 0 ho_R_X12.1 ho_R_X12.2.1 ho_R_X12.2.2 yy_X12_next mw_methodLink_TinyCModel_250_TinyCModel_next_V (d := 2) (zR_ok (by omega) (by decide)) hl.1 rfl (Nat.le_of_ble_eq_true rfl) (tX12_next  hc) dX12_nameIn_54 (fun H locs J => ?_)
    refine lv_iload_n hx hb dX12_nameIn_57 rfl (lv_at hl 2 rfl) ?_
    refine lv_if_lt hx hb dX12_nameIn_58 rfl (fun h => ?_) (fun h => ?_)
    · have hf := itp h hf
      refine lv_aload_n hx hb dX12_nameIn_65 rfl (lv_at hl 0 rfl) ?_
      refine gf_X12_32 X J dX12_nameIn_66 ?_
      refine lv_iload_n hx hb dX12_nameIn_69 rfl (lv_at hl 3 rfl) ?_
      obtain ⟨hin, hf⟩ := itx hf
      refine al_X12_X12f24 X J hin dX12_nameIn_70 ?_
      exact bX12_nameIn_71 X   J (lv_sub hl [0, 1, 2, 3] rfl) hf
    · have hf := itn h hf
      refine lv_iconst (v := (0 : Int32)) hx hb dX12_nameIn_61 (by decide) ?_
      refine lv_goto hx hb dX12_nameIn_62 rfl ?_
      exact bX12_nameIn_71 X   J (lv_sub hl [0, 1, 2, 3] rfl) hf
  · have hf := itp h hf
    refine lv_iconst (v := (-1 : Int32)) hx hb dX12_nameIn_51 (by decide) ?_
    exact zr_iret X J hf dX12_nameIn_52
set_option maxHeartbeats 4000000 in
theorem tX12_nameIn   {σ u : zSt} {r : Int32} (hf : fX12_nameIn N  σ = some (r, u)) : zMi l yX12_nameIn cX12_nameIn 7 (some .int) (7) D cy shR ad ts lnR [.ref (ad 0)] σ r u := by
  refine zM_of (by decide) (Nat.le_of_ble_eq_true rfl) (fun p e s m args below meth c ls ha X J hl => ?_)
  have hx := X.1
  have hb := X.2.1
  have hl : lv_has ls 7 [(0, .ref (ad 0))] := hl
  generalize s.heap = H at J ⊢
  generalize ([] : List Loc) = locs at J ⊢
  show W p l e (zRm (7)) s m args below meth c H locs 0 0 (zQi D cy shR ad ts lnR below args s (r, u)) (F0 m 0 ls [])
  unfold fX12_nameIn at hf
  refine lv_aload_n hx hb dX12_nameIn_0 rfl (lv_at hl 0 rfl) ?_
  refine gf_X12_199 X J dX12_nameIn_1 ?_
  refine lv_topi (fun x1 eq => ?_)
  have hf := bnd_eq eq hf
  clear eq
  refine lv_istore_n hx hb dX12_nameIn_4 rfl hl (by decide) rfl (fun ls hl => ?_)
  have hl : lv_has ls 7 [(1, .int x1), (0, .ref (ad 0))] := hl
  refine lv_aload_n hx hb dX12_nameIn_5 rfl (lv_at hl 1 rfl) ?_
  refine lv_aload_n hx hb dX12_nameIn_6 rfl (lv_at hl 1 rfl) ?_
  refine gf_X12_202 X J dX12_nameIn_7 ?_
  obtain ⟨r2, σ3, hc, hf⟩ := obd_some hf
  refine zr_calli (As := [.long (zL σ 0 20)]) (rest := []) X J 0 ho_R_X12.1 ho_R_X12.2.1 ho_R_X12.2.2 yy_X12_localOf mw_methodLink_TinyCModel_324_TinyCModel_localOf_JI (d := 0) (zR_ok (by omega) (by decide)) hl.1 rfl (Nat.le_of_ble_eq_true rfl) (tX12_localOf  hc) dX12_nameIn_10 (fun H locs J => ?_)
  refine lv_istore_n hx hb dX12_nameIn_13 rfl hl (by decide) rfl (fun ls hl => ?_)
  have hl : lv_has ls 7 [(2, .int r2), (1, .int x1), (0, .ref (ad 0))] := hl
  refine lv_aload_n hx hb dX12_nameIn_14 rfl (lv_at hl 2 rfl) ?_
  refine lv_aload_n hx hb dX12_nameIn_15 rfl (lv_at hl 2 rfl) ?_
  refine gf_X12_202 X J dX12_nameIn_16 ?_
  obtain ⟨r4, σ5, hc, hf⟩ := obd_some hf
  refine zr_calli (As := [.long (zL σ3 0 20)]) (rest := []) X J 0 ho_R_X12.1 ho_R_X12.2.1 ho_R_X12.2.2 yy_X12_named mw_methodLink_TinyCModel_286_TinyCModel_named_JI (d := 0) (zR_ok (by omega) (by decide)) hl.1 rfl (Nat.le_of_ble_eq_true rfl) (tX12_named  hc) dX12_nameIn_19 (fun H locs J => ?_)
  refine lv_istore_n hx hb dX12_nameIn_22 rfl hl (by decide) rfl (fun ls hl => ?_)
  have hl : lv_has ls 7 [(3, .int r4), (2, .int r2), (1, .int x1), (0, .ref (ad 0))] := hl
  refine lv_iload_n hx hb dX12_nameIn_23 rfl (lv_at hl 1 rfl) ?_
  refine lv_if_ge hx hb dX12_nameIn_24 rfl (fun h => ?_) (fun h => ?_)
  · have hf := itp h hf
    exact bX12_nameIn_39 X   J (lv_sub hl [3, 2, 1, 0] rfl) hf
  · have hf := itn h hf
    refine lv_iload_n hx hb dX12_nameIn_27 rfl (lv_at hl 0 rfl) ?_
    refine lv_if_ge hx hb dX12_nameIn_28 rfl (fun h => ?_) (fun h => ?_)
    · have hf := itp h hf
      exact bX12_nameIn_39 X   J (lv_sub hl [3, 2, 1, 0] rfl) hf
    · have hf := itn h hf
      refine lv_aload_n hx hb dX12_nameIn_31 rfl (lv_at hl 3 rfl) ?_
      refine lv_iconst (v := (3 : Int32)) hx hb dX12_nameIn_32 (by decide) ?_
      refine lv_iload_n hx hb dX12_nameIn_33 rfl (lv_at hl 2 rfl) ?_
      obtain ⟨r31, σ32, hc, hf⟩ := obd_some hf
      refine zr_callv (As := [.int (3 : Int32), .int x1]) (rest := []) X J 0 ho_R_X12.1 ho_R_X12.2.1 ho_R_X12.2.2 yy_X12_fails mw_methodLink_TinyCModel_239_TinyCModel_fails_IIV (d := 0) (zR_ok (by omega) (by decide)) hl.1 rfl (Nat.le_of_ble_eq_true rfl) (tX12_fails  hc) dX12_nameIn_34 (fun H locs J => ?_)
      refine lv_iconst (v := (-1 : Int32)) hx hb dX12_nameIn_37 (by decide) ?_
      exact zr_iret X J hf dX12_nameIn_38
set_option maxHeartbeats 4000000 in
theorem bX12_part_86 {o : Int32 × zSt} (X : zX p s m args meth c D cy shR ad ts cX12_part 3 (some .int) RX12)  {x2_ : Int32} {s0_ : Int32} {s1_ : Int32}  {σ : zSt} {H : Heap} {locs : List Loc} {ls : Array Slot} (J : zJ D cy shR ad lnR s σ H locs) (hl : lv_has ls 3 [(0, .ref (ad 0)), (2, .int x2_)]) (hf : fX12_part_b86 N  x2_ s0_ s1_ σ = some o) : W p l e (zRm (8)) s m args below meth c H locs 0 0 (zQi D cy shR ad ts lnR below args s o) (F0 m 86 ls [.int s0_, .int s1_, .ref (ad 19)]) := by
  have hx := X.1
  have hb := X.2.1
  unfold fX12_part_b86 at hf
  obtain ⟨hin, hf⟩ := itx hf
  refine as_X12_X12f43 X J hin dX12_part_86 (fun σ10 H locs eq J => ?_)
  have hf := bnd_eq eq hf
  clear eq
  refine lv_aload_n hx hb dX12_part_87 rfl (lv_at hl 0 rfl) ?_
  obtain ⟨r11, σ12, hc, hf⟩ := obd_some hf
  refine zr_calli (As := []) (rest := []) X J 0 ho_R_X12.1 ho_R_X12.2.1 ho_R_X12.2.2 yy_X12_isWell mw_methodLink_TinyCModel_243_TinyCModel_isWell_Z (d := 0) (zR_ok (by omega) (by decide)) hl.1 rfl (Nat.le_of_ble_eq_true rfl) (tX12_isWell  hc) dX12_part_88 (fun H locs J => ?_)
  refine lv_if_eq hx hb dX12_part_91 rfl (fun h => ?_) (fun h => ?_)
  · have hf := itp h hf
    refine lv_iconst (v := (-1 : Int32)) hx hb dX12_part_105 (by decide) ?_
    exact zr_iret X J hf dX12_part_106
  · have hf := itn h hf
    refine lv_aload_n hx hb dX12_part_94 rfl (lv_at hl 0 rfl) ?_
    refine lv_iconst (v := (4 : Int32)) hx hb dX12_part_95 (by decide) ?_
    refine lv_iload_n hx hb dX12_part_96 rfl (lv_at hl 1 rfl) ?_
    refine lv_iconst (v := (-1 : Int32)) hx hb dX12_part_97 (by decide) ?_
    obtain ⟨r13, σ14, hc, hf⟩ := obd_some hf
    refine zr_callv (As := [.int (4 : Int32), .int x2_, .int (-1 : Int32)]) (rest := []) X J 0 ho_R_X12.1 ho_R_X12.2.1 ho_R_X12.2.2 yy_X12_waits mw_methodLink_TinyCModel_373_TinyCModel_waits_IIIV (d := 0) (zR_ok (by omega) (by decide)) hl.1 rfl (Nat.le_of_ble_eq_true rfl) (tX12_waits  hc) dX12_part_98 (fun H locs J => ?_)
    refine lv_aload_n hx hb dX12_part_101 rfl (lv_at hl 0 rfl) ?_
    obtain ⟨r15, σ16, hc, hf⟩ := obd_some hf
    refine zr_callv (As := []) (rest := []) X J 0 ho_R_X12.1 ho_R_X12.2.1 ho_R_X12.2.2 yy_X12_next mw_methodLink_TinyCModel_250_TinyCModel_next_V (d := 2) (zR_ok (by omega) (by decide)) hl.1 rfl (Nat.le_of_ble_eq_true rfl) (tX12_next  hc) dX12_part_102 (fun H locs J => ?_)
    refine lv_iconst (v := (-1 : Int32)) hx hb dX12_part_105 (by decide) ?_
    exact zr_iret X J hf dX12_part_106
set_option maxHeartbeats 4000000 in
theorem bX12_part_32 {o : Int32 × zSt} (X : zX p s m args meth c D cy shR ad ts cX12_part 3 (some .int) RX12)  {x1_ : Int32}  {σ : zSt} {H : Heap} {locs : List Loc} {ls : Array Slot} (J : zJ D cy shR ad lnR s σ H locs) (hl : lv_has ls 3 [(0, .ref (ad 0)), (1, .int x1_)]) (hf : fX12_part_b32 N  x1_ σ = some o) : W p l e (zRm (8)) s m args below meth c H locs 0 0 (zQi D cy shR ad ts lnR below args s o) (F0 m 32 ls []) := by
  have hx := X.1
  have hb := X.2.1
  unfold fX12_part_b32 at hf
  refine lv_aload_n hx hb dX12_part_32 rfl (lv_at hl 0 rfl) ?_
  obtain ⟨r4, σ5, hc, hf⟩ := obd_some hf
  refine zr_callv (As := []) (rest := []) X J 0 ho_R_X12.1 ho_R_X12.2.1 ho_R_X12.2.2 yy_X12_nests mw_methodLink_TinyCModel_271_TinyCModel_nests_V (d := 1) (zR_ok (by omega) (by decide)) hl.1 rfl (Nat.le_of_ble_eq_true rfl) (tX12_nests  hc) dX12_part_33 (fun H locs J => ?_)
  refine lv_aload_n hx hb dX12_part_36 rfl (lv_at hl 0 rfl) ?_
  refine lv_iload_n hx hb dX12_part_37 rfl (lv_at hl 1 rfl) ?_
  obtain ⟨r6, σ7, hc, hf⟩ := obd_some hf
  refine zr_callv (As := [.int x1_]) (rest := []) X J 0 ho_R_X12.1 ho_R_X12.2.1 ho_R_X12.2.2 yy_X12_four mw_methodLink_TinyCModel_293_TinyCModel_four_IV (d := 1) (zR_ok (by omega) (by decide)) hl.1 rfl (Nat.le_of_ble_eq_true rfl) (tX12_four  hc) dX12_part_38 (fun H locs J => ?_)
  refine lv_aload_n hx hb dX12_part_41 rfl (lv_at hl 0 rfl) ?_
  refine lv_iconst (v := (5 : Int32)) hx hb dX12_part_42 (by decide) ?_
  obtain ⟨r8, σ9, hc, hf⟩ := obd_some hf
  refine zr_calli (As := [.int (5 : Int32)]) (rest := []) X J 0 ho_R_X12.1 ho_R_X12.2.1 ho_R_X12.2.2 yy_X12_node mw_methodLink_TinyCModel_330_TinyCModel_node_II (d := 0) (zR_ok (by omega) (by decide)) hl.1 rfl (Nat.le_of_ble_eq_true rfl) (tX12_node  hc) dX12_part_43 (fun H locs J => ?_)
  refine lv_istore_n hx hb dX12_part_46 rfl hl (by decide) rfl (fun ls hl => ?_)
  have hl : lv_has ls 3 [(2, .int r8), (0, .ref (ad 0)), (1, .int x1_)] := hl
  refine lv_aload_n hx hb dX12_part_47 rfl (lv_at hl 1 rfl) ?_
  refine gf_X12_65 X J dX12_part_48 ?_
  refine lv_iload_n hx hb dX12_part_51 rfl (lv_at hl 0 rfl) ?_
  refine lv_aload_n hx hb dX12_part_52 rfl (lv_at hl 1 rfl) ?_
  refine gf_X12_202 X J dX12_part_53 ?_
  refine lv_ldc2 (v := (45 : Int64)) hx hb X.2.2.2.1 (X.2.2.2.2.1 _ mw_constantLong_TinyCModel_404) dX12_part_56 ?_
  refine W.lcmp hx hb dX12_part_59 ?_
  refine lv_if_ne hx hb dX12_part_60 rfl (fun h => ?_) (fun h => ?_)
  · have hf := itn h hf
    refine lv_aload_n hx hb dX12_part_68 rfl (lv_at hl 1 rfl) ?_
    refine gf_X12_202 X J dX12_part_69 ?_
    refine lv_ldc2 (v := (33 : Int64)) hx hb X.2.2.2.1 (X.2.2.2.2.1 _ mw_constantLong_TinyCModel_406) dX12_part_72 ?_
    refine W.lcmp hx hb dX12_part_75 ?_
    refine lv_if_ne hx hb dX12_part_76 rfl (fun h => ?_) (fun h => ?_)
    · have hf := itn h hf
      refine lv_bipush (v := (26 : Int32)) hx hb dX12_part_84 (by decide) ?_
      exact bX12_part_86 X   J (lv_sub hl [1, 0] rfl) hf
    · have hf := itp h hf
      refine lv_bipush (v := (25 : Int32)) hx hb dX12_part_79 (by decide) ?_
      refine lv_goto hx hb dX12_part_81 rfl ?_
      exact bX12_part_86 X   J (lv_sub hl [1, 0] rfl) hf
  · have hf := itp h hf
    refine lv_bipush (v := (24 : Int32)) hx hb dX12_part_63 (by decide) ?_
    refine lv_goto hx hb dX12_part_65 rfl ?_
    exact bX12_part_86 X   J (lv_sub hl [1, 0] rfl) hf
set_option maxHeartbeats 4000000 in
theorem bX12_part_138 {o : Int32 × zSt} (X : zX p s m args meth c D cy shR ad ts cX12_part 3 (some .int) RX12)    {σ : zSt} {H : Heap} {locs : List Loc} {ls : Array Slot} (J : zJ D cy shR ad lnR s σ H locs) (hl : lv_has ls 3 [(0, .ref (ad 0))]) (hf : fX12_part_b138 N   σ = some o) : W p l e (zRm (8)) s m args below meth c H locs 0 0 (zQi D cy shR ad ts lnR below args s o) (F0 m 138 ls []) := by
  have hx := X.1
  have hb := X.2.1
  unfold fX12_part_b138 at hf
  refine lv_aload_n hx hb dX12_part_138 rfl (lv_at hl 0 rfl) ?_
  refine lv_iconst (v := (1 : Int32)) hx hb dX12_part_139 (by decide) ?_
  obtain ⟨r47, σ48, hc, hf⟩ := obd_some hf
  refine zr_calli (As := [.int (1 : Int32)]) (rest := []) X J 0 ho_R_X12.1 ho_R_X12.2.1 ho_R_X12.2.2 yy_X12_node mw_methodLink_TinyCModel_330_TinyCModel_node_II (d := 0) (zR_ok (by omega) (by decide)) hl.1 rfl (Nat.le_of_ble_eq_true rfl) (tX12_node  hc) dX12_part_140 (fun H locs J => ?_)
  refine lv_istore_n hx hb dX12_part_143 rfl hl (by decide) rfl (fun ls hl => ?_)
  have hl : lv_has ls 3 [(2, .int r47), (0, .ref (ad 0))] := hl
  refine lv_aload_n hx hb dX12_part_144 rfl (lv_at hl 1 rfl) ?_
  refine gf_X12_65 X J dX12_part_145 ?_
  refine lv_iload_n hx hb dX12_part_148 rfl (lv_at hl 0 rfl) ?_
  refine lv_aload_n hx hb dX12_part_149 rfl (lv_at hl 1 rfl) ?_
  refine gf_X12_202 X J dX12_part_150 ?_
  refine lv_l2i hx hb dX12_part_153 rfl ?_
  obtain ⟨hin, hf⟩ := itx hf
  refine as_X12_X12f43 X J hin dX12_part_154 (fun σ49 H locs eq J => ?_)
  have hf := bnd_eq eq hf
  clear eq
  refine lv_aload_n hx hb dX12_part_155 rfl (lv_at hl 1 rfl) ?_
  obtain ⟨r50, σ51, hc, hf⟩ := obd_some hf
  refine zr_callv (As := []) (rest := []) X J 0 ho_R_X12.1 ho_R_X12.2.1 ho_R_X12.2.2 yy_X12_next mw_methodLink_TinyCModel_250_TinyCModel_next_V (d := 2) (zR_ok (by omega) (by decide)) hl.1 rfl (Nat.le_of_ble_eq_true rfl) (tX12_next  hc) dX12_part_156 (fun H locs J => ?_)
  refine lv_iload_n hx hb dX12_part_159 rfl (lv_at hl 0 rfl) ?_
  exact zr_iret X J hf dX12_part_160
set_option maxHeartbeats 4000000 in
theorem tX12_part   {σ u : zSt} {r : Int32} (hf : fX12_part N  σ = some (r, u)) : zMi l yX12_part cX12_part 3 (some .int) (8) D cy shR ad ts lnR [.ref (ad 0)] σ r u := by
  refine zM_of (by decide) (Nat.le_of_ble_eq_true rfl) (fun p e s m args below meth c ls ha X J hl => ?_)
  have hx := X.1
  have hb := X.2.1
  have hl : lv_has ls 3 [(0, .ref (ad 0))] := hl
  generalize s.heap = H at J ⊢
  generalize ([] : List Loc) = locs at J ⊢
  show W p l e (zRm (8)) s m args below meth c H locs 0 0 (zQi D cy shR ad ts lnR below args s (r, u)) (F0 m 0 ls [])
  unfold fX12_part at hf
  refine lv_aload_n hx hb dX12_part_0 rfl (lv_at hl 0 rfl) ?_
  refine gf_X12_199 X J dX12_part_1 ?_
  refine lv_topi (fun x1 eq => ?_)
  have hf := bnd_eq eq hf
  clear eq
  refine lv_istore_n hx hb dX12_part_4 rfl hl (by decide) rfl (fun ls hl => ?_)
  have hl : lv_has ls 3 [(1, .int x1), (0, .ref (ad 0))] := hl
  refine lv_aload_n hx hb dX12_part_5 rfl (lv_at hl 1 rfl) ?_
  refine lv_bipush (v := (45 : Int32)) hx hb dX12_part_6 (by decide) ?_
  obtain ⟨r2, σ3, hc, hf⟩ := obd_some hf
  refine zr_calli (As := [.int (45 : Int32)]) (rest := []) X J 0 ho_R_X12.1 ho_R_X12.2.1 ho_R_X12.2.2 yy_X12_isSign mw_methodLink_TinyCModel_247_TinyCModel_isSign_IZ (d := 1) (zR_ok (by omega) (by decide)) hl.1 rfl (Nat.le_of_ble_eq_true rfl) (tX12_isSign  hc) dX12_part_8 (fun H locs J => ?_)
  refine lv_if_ne hx hb dX12_part_11 rfl (fun h => ?_) (fun h => ?_)
  · have hf := itn h hf
    exact bX12_part_32 X   J (lv_sub hl [1, 0] rfl) hf
  · have hf := itp h hf
    refine lv_aload_n hx hb dX12_part_14 rfl (lv_at hl 1 rfl) ?_
    refine lv_bipush (v := (33 : Int32)) hx hb dX12_part_15 (by decide) ?_
    obtain ⟨r17, σ18, hc, hf⟩ := obd_some hf
    refine zr_calli (As := [.int (33 : Int32)]) (rest := []) X J 0 ho_R_X12.1 ho_R_X12.2.1 ho_R_X12.2.2 yy_X12_isSign mw_methodLink_TinyCModel_247_TinyCModel_isSign_IZ (d := 1) (zR_ok (by omega) (by decide)) hl.1 rfl (Nat.le_of_ble_eq_true rfl) (tX12_isSign  hc) dX12_part_17 (fun H locs J => ?_)
    refine lv_if_ne hx hb dX12_part_20 rfl (fun h => ?_) (fun h => ?_)
    · have hf := itn h hf
      exact bX12_part_32 X   J (lv_sub hl [1, 0] rfl) hf
    · have hf := itp h hf
      refine lv_aload_n hx hb dX12_part_23 rfl (lv_at hl 1 rfl) ?_
      refine lv_bipush (v := (126 : Int32)) hx hb dX12_part_24 (by decide) ?_
      obtain ⟨r19, σ20, hc, hf⟩ := obd_some hf
      refine zr_calli (As := [.int (126 : Int32)]) (rest := []) X J 0 ho_R_X12.1 ho_R_X12.2.1 ho_R_X12.2.2 yy_X12_isSign mw_methodLink_TinyCModel_247_TinyCModel_isSign_IZ (d := 1) (zR_ok (by omega) (by decide)) hl.1 rfl (Nat.le_of_ble_eq_true rfl) (tX12_isSign  hc) dX12_part_26 (fun H locs J => ?_)
      refine lv_if_eq hx hb dX12_part_29 rfl (fun h => ?_) (fun h => ?_)
      · have hf := itp h hf
        refine lv_aload_n hx hb dX12_part_107 rfl (lv_at hl 1 rfl) ?_
        refine gf_X12_206 X J dX12_part_108 ?_
        refine lv_iconst (v := (2 : Int32)) hx hb dX12_part_111 (by decide) ?_
        refine lv_icmp_ne hx hb dX12_part_112 rfl (fun h => ?_) (fun h => ?_)
        · have hf := itn h hf
          refine lv_aload_n hx hb dX12_part_161 rfl (lv_at hl 1 rfl) ?_
          refine lv_bipush (v := (6 : Int32)) hx hb dX12_part_162 (by decide) ?_
          obtain ⟨r21, σ22, hc, hf⟩ := obd_some hf
          refine zr_calli (As := [.int (6 : Int32)]) (rest := []) X J 0 ho_R_X12.1 ho_R_X12.2.1 ho_R_X12.2.2 yy_X12_isWord mw_methodLink_TinyCModel_290_TinyCModel_isWord_IZ (d := 1) (zR_ok (by omega) (by decide)) hl.1 rfl (Nat.le_of_ble_eq_true rfl) (tX12_isWord  hc) dX12_part_164 (fun H locs J => ?_)
          refine lv_if_eq hx hb dX12_part_167 rfl (fun h => ?_) (fun h => ?_)
          · have hf := itp h hf
            refine lv_aload_n hx hb dX12_part_200 rfl (lv_at hl 1 rfl) ?_
            refine lv_bipush (v := (40 : Int32)) hx hb dX12_part_201 (by decide) ?_
            obtain ⟨r23, σ24, hc, hf⟩ := obd_some hf
            refine zr_calli (As := [.int (40 : Int32)]) (rest := []) X J 0 ho_R_X12.1 ho_R_X12.2.1 ho_R_X12.2.2 yy_X12_isSign mw_methodLink_TinyCModel_247_TinyCModel_isSign_IZ (d := 1) (zR_ok (by omega) (by decide)) hl.1 rfl (Nat.le_of_ble_eq_true rfl) (tX12_isSign  hc) dX12_part_203 (fun H locs J => ?_)
            refine lv_if_eq hx hb dX12_part_206 rfl (fun h => ?_) (fun h => ?_)
            · have hf := itp h hf
              refine lv_aload_n hx hb dX12_part_231 rfl (lv_at hl 1 rfl) ?_
              refine gf_X12_206 X J dX12_part_232 ?_
              refine lv_iconst (v := (1 : Int32)) hx hb dX12_part_235 (by decide) ?_
              refine lv_icmp_ne hx hb dX12_part_236 rfl (fun h => ?_) (fun h => ?_)
              · have hf := itn h hf
                refine lv_aload_n hx hb dX12_part_244 rfl (lv_at hl 1 rfl) ?_
                obtain ⟨r25, σ26, hc, hf⟩ := obd_some hf
                refine zr_callv (As := []) (rest := []) X J 0 ho_R_X12.1 ho_R_X12.2.1 ho_R_X12.2.2 yy_X12_stray mw_methodLink_TinyCModel_253_TinyCModel_stray_V (d := 1) (zR_ok (by omega) (by decide)) hl.1 rfl (Nat.le_of_ble_eq_true rfl) (tX12_stray  hc) dX12_part_245 (fun H locs J => ?_)
                refine lv_iconst (v := (-1 : Int32)) hx hb dX12_part_248 (by decide) ?_
                exact zr_iret X J hf dX12_part_249
              · have hf := itp h hf
                refine lv_aload_n hx hb dX12_part_239 rfl (lv_at hl 1 rfl) ?_
                obtain ⟨r27, σ28, hc, hf⟩ := obd_some hf
                refine zr_calli (As := []) (rest := []) X J 0 ho_R_X12.1 ho_R_X12.2.1 ho_R_X12.2.2 yy_X12_nameIn mw_methodLink_TinyCModel_410_TinyCModel_nameIn_I (d := 7) (zR_ok (by omega) (by decide)) hl.1 rfl (Nat.le_of_ble_eq_true rfl) (tX12_nameIn  hc) dX12_part_240 (fun H locs J => ?_)
                exact zr_iret X J hf dX12_part_243
            · have hf := itn h hf
              refine lv_aload_n hx hb dX12_part_209 rfl (lv_at hl 1 rfl) ?_
              refine lv_bipush (v := (40 : Int32)) hx hb dX12_part_210 (by decide) ?_
              obtain ⟨r29, σ30, hc, hf⟩ := obd_some hf
              refine zr_callv (As := [.int (40 : Int32)]) (rest := []) X J 0 ho_R_X12.1 ho_R_X12.2.1 ho_R_X12.2.2 yy_X12_opens mw_methodLink_TinyCModel_300_TinyCModel_opens_IV (d := 3) (zR_ok (by omega) (by decide)) hl.1 rfl (Nat.le_of_ble_eq_true rfl) (tX12_opens  hc) dX12_part_212 (fun H locs J => ?_)
              refine lv_aload_n hx hb dX12_part_215 rfl (lv_at hl 1 rfl) ?_
              obtain ⟨r31, σ32, hc, hf⟩ := obd_some hf
              refine zr_calli (As := []) (rest := []) X J 0 ho_R_X12.1 ho_R_X12.2.1 ho_R_X12.2.2 yy_X12_isWell mw_methodLink_TinyCModel_243_TinyCModel_isWell_Z (d := 0) (zR_ok (by omega) (by decide)) hl.1 rfl (Nat.le_of_ble_eq_true rfl) (tX12_isWell  hc) dX12_part_216 (fun H locs J => ?_)
              refine lv_if_eq hx hb dX12_part_219 rfl (fun h => ?_) (fun h => ?_)
              · have hf := itp h hf
                refine lv_iconst (v := (-1 : Int32)) hx hb dX12_part_229 (by decide) ?_
                exact zr_iret X J hf dX12_part_230
              · have hf := itn h hf
                refine lv_aload_n hx hb dX12_part_222 rfl (lv_at hl 1 rfl) ?_
                refine lv_iconst (v := (1 : Int32)) hx hb dX12_part_223 (by decide) ?_
                refine lv_iconst (v := (-1 : Int32)) hx hb dX12_part_224 (by decide) ?_
                refine lv_iconst (v := (-1 : Int32)) hx hb dX12_part_225 (by decide) ?_
                obtain ⟨r33, σ34, hc, hf⟩ := obd_some hf
                refine zr_callv (As := [.int (1 : Int32), .int (-1 : Int32), .int (-1 : Int32)]) (rest := []) X J 0 ho_R_X12.1 ho_R_X12.2.1 ho_R_X12.2.2 yy_X12_waits mw_methodLink_TinyCModel_373_TinyCModel_waits_IIIV (d := 0) (zR_ok (by omega) (by decide)) hl.1 rfl (Nat.le_of_ble_eq_true rfl) (tX12_waits  hc) dX12_part_226 (fun H locs J => ?_)
                refine lv_iconst (v := (-1 : Int32)) hx hb dX12_part_229 (by decide) ?_
                exact zr_iret X J hf dX12_part_230
          · have hf := itn h hf
            refine lv_aload_n hx hb dX12_part_170 rfl (lv_at hl 1 rfl) ?_
            refine lv_iload_n hx hb dX12_part_171 rfl (lv_at hl 0 rfl) ?_
            obtain ⟨r35, σ36, hc, hf⟩ := obd_some hf
            refine zr_callv (As := [.int x1]) (rest := []) X J 0 ho_R_X12.1 ho_R_X12.2.1 ho_R_X12.2.2 yy_X12_four mw_methodLink_TinyCModel_293_TinyCModel_four_IV (d := 1) (zR_ok (by omega) (by decide)) hl.1 rfl (Nat.le_of_ble_eq_true rfl) (tX12_four  hc) dX12_part_172 (fun H locs J => ?_)
            refine lv_aload_n hx hb dX12_part_175 rfl (lv_at hl 1 rfl) ?_
            refine lv_bipush (v := (10 : Int32)) hx hb dX12_part_176 (by decide) ?_
            obtain ⟨r37, σ38, hc, hf⟩ := obd_some hf
            refine zr_calli (As := [.int (10 : Int32)]) (rest := []) X J 0 ho_R_X12.1 ho_R_X12.2.1 ho_R_X12.2.2 yy_X12_node mw_methodLink_TinyCModel_330_TinyCModel_node_II (d := 0) (zR_ok (by omega) (by decide)) hl.1 rfl (Nat.le_of_ble_eq_true rfl) (tX12_node  hc) dX12_part_178 (fun H locs J => ?_)
            refine lv_istore_n hx hb dX12_part_181 rfl hl (by decide) rfl (fun ls hl => ?_)
            have hl : lv_has ls 3 [(2, .int r37), (1, .int x1), (0, .ref (ad 0))] := hl
            refine lv_aload_n hx hb dX12_part_182 rfl (lv_at hl 2 rfl) ?_
            obtain ⟨r39, σ40, hc, hf⟩ := obd_some hf
            refine zr_callv (As := []) (rest := []) X J 0 ho_R_X12.1 ho_R_X12.2.1 ho_R_X12.2.2 yy_X12_next mw_methodLink_TinyCModel_250_TinyCModel_next_V (d := 2) (zR_ok (by omega) (by decide)) hl.1 rfl (Nat.le_of_ble_eq_true rfl) (tX12_next  hc) dX12_part_183 (fun H locs J => ?_)
            refine lv_aload_n hx hb dX12_part_186 rfl (lv_at hl 2 rfl) ?_
            refine lv_bipush (v := (40 : Int32)) hx hb dX12_part_187 (by decide) ?_
            obtain ⟨r41, σ42, hc, hf⟩ := obd_some hf
            refine zr_callv (As := [.int (40 : Int32)]) (rest := []) X J 0 ho_R_X12.1 ho_R_X12.2.1 ho_R_X12.2.2 yy_X12_opens mw_methodLink_TinyCModel_300_TinyCModel_opens_IV (d := 3) (zR_ok (by omega) (by decide)) hl.1 rfl (Nat.le_of_ble_eq_true rfl) (tX12_opens  hc) dX12_part_189 (fun H locs J => ?_)
            refine lv_aload_n hx hb dX12_part_192 rfl (lv_at hl 2 rfl) ?_
            refine lv_bipush (v := (41 : Int32)) hx hb dX12_part_193 (by decide) ?_
            obtain ⟨r43, σ44, hc, hf⟩ := obd_some hf
            refine zr_callv (As := [.int (41 : Int32)]) (rest := []) X J 0 ho_R_X12.1 ho_R_X12.2.1 ho_R_X12.2.2 yy_X12_closes mw_methodLink_TinyCModel_307_TinyCModel_closes_IV (d := 4) (zR_ok (by omega) (by decide)) hl.1 rfl (Nat.le_of_ble_eq_true rfl) (tX12_closes  hc) dX12_part_195 (fun H locs J => ?_)
            refine lv_iload_n hx hb dX12_part_198 rfl (lv_at hl 0 rfl) ?_
            exact zr_iret X J hf dX12_part_199
        · have hf := itp h hf
          refine lv_aload_n hx hb dX12_part_115 rfl (lv_at hl 1 rfl) ?_
          refine lv_iload_n hx hb dX12_part_116 rfl (lv_at hl 0 rfl) ?_
          obtain ⟨r45, σ46, hc, hf⟩ := obd_some hf
          refine zr_callv (As := [.int x1]) (rest := []) X J 0 ho_R_X12.1 ho_R_X12.2.1 ho_R_X12.2.2 yy_X12_four mw_methodLink_TinyCModel_293_TinyCModel_four_IV (d := 1) (zR_ok (by omega) (by decide)) hl.1 rfl (Nat.le_of_ble_eq_true rfl) (tX12_four  hc) dX12_part_117 (fun H locs J => ?_)
          refine lv_aload_n hx hb dX12_part_120 rfl (lv_at hl 1 rfl) ?_
          refine gf_X12_202 X J dX12_part_121 ?_
          refine lv_ldc2 (v := (2147483647 : Int64)) hx hb X.2.2.2.1 (X.2.2.2.2.1 _ mw_constantLong_TinyCModel_408) dX12_part_124 ?_
          refine W.lcmp hx hb dX12_part_127 ?_
          refine lv_if_le hx hb dX12_part_128 rfl (fun h => ?_) (fun h => ?_)
          · have hf := itp h hf
            exact bX12_part_138 X   J (lv_sub hl [1] rfl) hf
          · have hf := itn h hf
            refine lv_aload_n hx hb dX12_part_131 rfl (lv_at hl 1 rfl) ?_
            refine lv_bipush (v := (11 : Int32)) hx hb dX12_part_132 (by decide) ?_
            refine lv_iload_n hx hb dX12_part_134 rfl (lv_at hl 0 rfl) ?_
            obtain ⟨r52, σ53, hc, hf⟩ := obd_some hf
            refine zr_callv (As := [.int (11 : Int32), .int x1]) (rest := []) X J 0 ho_R_X12.1 ho_R_X12.2.1 ho_R_X12.2.2 yy_X12_fails mw_methodLink_TinyCModel_239_TinyCModel_fails_IIV (d := 0) (zR_ok (by omega) (by decide)) hl.1 rfl (Nat.le_of_ble_eq_true rfl) (tX12_fails  hc) dX12_part_135 (fun H locs J => ?_)
            exact bX12_part_138 X   J (lv_sub hl [1] rfl) hf
      · have hf := itn h hf
        exact bX12_part_32 X   J (lv_sub hl [1, 0] rfl) hf
end
