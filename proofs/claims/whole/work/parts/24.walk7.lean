section
variable {p : Program} {l : Launch} {e : Env} {s : State} {m : MethodId} {args : Array Value} {below : List Frame} {meth : Method} {c : Code} {D : va_G} {cy : Nat → ClassId} {ad ts : Nat → Nat} {N : Nat}
set_option maxHeartbeats 4000000 in
theorem bX12_logic_45 {o : Unit × zSt} (X : zX p s m args meth c D cy shR ad ts cX12_logic 4 none RX12)  {s0_ : Int32}  {σ : zSt} {H : Heap} {locs : List Loc} {ls : Array Slot} (J : zJ D cy shR ad lnR s σ H locs) (hl : lv_has ls 4 []) (hf : fX12_logic_b45 N  s0_ σ = some o) : W p l e (zRm (1)) s m args below meth c H locs 0 0 (zQv D cy shR ad ts lnR below args s o) (F0 m 45 ls [.int s0_, .ref (ad 0)]) := by
  have hx := X.1
  have hb := X.2.1
  unfold fX12_logic_b45 at hf
  obtain ⟨r7, σ8, hc, hf⟩ := obd_some hf
  refine zr_callv (As := [.int s0_]) (rest := []) X J 0 ho_R_X12.1 ho_R_X12.2.1 ho_R_X12.2.2 yy_X12_gives mw_methodLink_TinyCModel_577_TinyCModel_gives_IV (d := 0) (zR_ok (by omega) (by decide)) hl.1 rfl (Nat.le_of_ble_eq_true rfl) (tX12_gives  hc) dX12_logic_45 (fun H locs J => ?_)
  exact zr_vret X J hf dX12_logic_48
set_option maxHeartbeats 4000000 in
theorem bX12_logic_29 {o : Unit × zSt} (X : zX p s m args meth c D cy shR ad ts cX12_logic 4 none RX12)  {x1_ : Int32} {x2_ : Int32} {s0_ : Int32}  {σ : zSt} {H : Heap} {locs : List Loc} {ls : Array Slot} (J : zJ D cy shR ad lnR s σ H locs) (hl : lv_has ls 4 [(0, .ref (ad 0)), (1, .int x1_), (2, .int x2_)]) (hf : fX12_logic_b29 N  x1_ x2_ s0_ σ = some o) : W p l e (zRm (1)) s m args below meth c H locs 0 0 (zQv D cy shR ad ts lnR below args s o) (F0 m 29 ls [.int s0_]) := by
  have hx := X.1
  have hb := X.2.1
  unfold fX12_logic_b29 at hf
  refine lv_istore_n hx hb dX12_logic_29 rfl hl (by decide) rfl (fun ls hl => ?_)
  have hl : lv_has ls 4 [(3, .int s0_), (0, .ref (ad 0)), (1, .int x1_), (2, .int x2_)] := hl
  refine lv_iload_n hx hb dX12_logic_30 rfl (lv_at hl 3 rfl) ?_
  refine lv_iload_n hx hb dX12_logic_31 rfl (lv_at hl 0 rfl) ?_
  refine lv_icmp_ne hx hb dX12_logic_32 rfl (fun h => ?_) (fun h => ?_)
  · have hf := itn h hf
    refine lv_aload_n hx hb dX12_logic_49 rfl (lv_at hl 1 rfl) ?_
    refine lv_iconst (v := (5 : Int32)) hx hb dX12_logic_50 (by decide) ?_
    refine lv_iconst (v := (-1 : Int32)) hx hb dX12_logic_51 (by decide) ?_
    obtain ⟨r3, σ4, hc, hf⟩ := obd_some hf
    refine zr_callv (As := [.int (5 : Int32), .int (-1 : Int32)]) (rest := []) X J 0 ho_R_X12.1 ho_R_X12.2.1 ho_R_X12.2.2 yy_X12_push mw_methodLink_TinyCModel_518_TinyCModel_push_IIV (d := 0) (zR_ok (by omega) (by decide)) hl.1 rfl (Nat.le_of_ble_eq_true rfl) (tX12_push  hc) dX12_logic_52 (fun H locs J => ?_)
    refine lv_aload_n hx hb dX12_logic_55 rfl (lv_at hl 1 rfl) ?_
    refine lv_iconst (v := (2 : Int32)) hx hb dX12_logic_56 (by decide) ?_
    refine lv_aload_n hx hb dX12_logic_57 rfl (lv_at hl 1 rfl) ?_
    refine gf_X12_59 X J dX12_logic_58 ?_
    refine lv_iload_n hx hb dX12_logic_61 rfl (lv_at hl 2 rfl) ?_
    obtain ⟨hin, hf⟩ := itx hf
    refine al_X12_X12f41 X J hin dX12_logic_62 ?_
    obtain ⟨r5, σ6, hc, hf⟩ := obd_some hf
    refine zr_callv (As := [.int (2 : Int32), .int (zA σ4 17 x1_.toNatClampNeg)]) (rest := []) X J 0 ho_R_X12.1 ho_R_X12.2.1 ho_R_X12.2.2 yy_X12_push mw_methodLink_TinyCModel_518_TinyCModel_push_IIV (d := 0) (zR_ok (by omega) (by decide)) hl.1 rfl (Nat.le_of_ble_eq_true rfl) (tX12_push  hc) dX12_logic_63 (fun H locs J => ?_)
    exact zr_vret X J hf dX12_logic_66
  · have hf := itp h hf
    refine lv_aload_n hx hb dX12_logic_35 rfl (lv_at hl 1 rfl) ?_
    refine lv_iload_n hx hb dX12_logic_36 rfl (lv_at hl 0 rfl) ?_
    refine lv_if_eq hx hb dX12_logic_37 rfl (fun h => ?_) (fun h => ?_)
    · have hf := itp h hf
      refine lv_iconst (v := (0 : Int32)) hx hb dX12_logic_44 (by decide) ?_
      exact bX12_logic_45 X   J (lv_sub hl [] rfl) hf
    · have hf := itn h hf
      refine lv_iconst (v := (1 : Int32)) hx hb dX12_logic_40 (by decide) ?_
      refine lv_goto hx hb dX12_logic_41 rfl ?_
      exact bX12_logic_45 X   J (lv_sub hl [] rfl) hf
set_option maxHeartbeats 4000000 in
theorem bX12_logic_12 {o : Unit × zSt} (X : zX p s m args meth c D cy shR ad ts cX12_logic 4 none RX12)  {x1_ : Int32} {s0_ : Int32}  {σ : zSt} {H : Heap} {locs : List Loc} {ls : Array Slot} (J : zJ D cy shR ad lnR s σ H locs) (hl : lv_has ls 4 [(0, .ref (ad 0)), (1, .int x1_)]) (hf : fX12_logic_b12 N  x1_ s0_ σ = some o) : W p l e (zRm (1)) s m args below meth c H locs 0 0 (zQv D cy shR ad ts lnR below args s o) (F0 m 12 ls [.int s0_]) := by
  have hx := X.1
  have hb := X.2.1
  unfold fX12_logic_b12 at hf
  refine lv_istore_n hx hb dX12_logic_12 rfl hl (by decide) rfl (fun ls hl => ?_)
  have hl : lv_has ls 4 [(2, .int s0_), (0, .ref (ad 0)), (1, .int x1_)] := hl
  refine lv_aload_n hx hb dX12_logic_13 rfl (lv_at hl 1 rfl) ?_
  refine gf_X12_53 X J dX12_logic_14 ?_
  refine lv_iload_n hx hb dX12_logic_17 rfl (lv_at hl 2 rfl) ?_
  obtain ⟨hin, hf⟩ := itx hf
  refine al_X12_X12f39 X J hin dX12_logic_18 ?_
  refine lv_bipush (v := (8 : Int32)) hx hb dX12_logic_19 (by decide) ?_
  refine lv_icmp_ne hx hb dX12_logic_21 rfl (fun h => ?_) (fun h => ?_)
  · have hf := itn h hf
    refine lv_iconst (v := (0 : Int32)) hx hb dX12_logic_28 (by decide) ?_
    exact bX12_logic_29 X   J (lv_sub hl [1, 2, 0] rfl) hf
  · have hf := itp h hf
    refine lv_iconst (v := (1 : Int32)) hx hb dX12_logic_24 (by decide) ?_
    refine lv_goto hx hb dX12_logic_25 rfl ?_
    exact bX12_logic_29 X   J (lv_sub hl [1, 2, 0] rfl) hf
set_option maxHeartbeats 4000000 in
theorem tX12_logic {a1_ : Int32}  {σ u : zSt} {r : Unit} (hf : fX12_logic N a1_ σ = some (r, u)) : zMv l yX12_logic cX12_logic 4 none (1) D cy shR ad ts lnR [.ref (ad 0), .int a1_] σ u := by
  refine zM_of (by decide) (Nat.le_of_ble_eq_true rfl) (fun p e s m args below meth c ls ha X J hl => ?_)
  have hx := X.1
  have hb := X.2.1
  have hl : lv_has ls 4 [(0, .ref (ad 0)), (1, .int a1_)] := hl
  generalize s.heap = H at J ⊢
  generalize ([] : List Loc) = locs at J ⊢
  show W p l e (zRm (1)) s m args below meth c H locs 0 0 (zQv D cy shR ad ts lnR below args s (r, u)) (F0 m 0 ls [])
  unfold fX12_logic at hf
  refine lv_aload_n hx hb dX12_logic_0 rfl (lv_at hl 0 rfl) ?_
  obtain ⟨r1, σ2, hc, hf⟩ := obd_some hf
  refine zr_calli (As := []) (rest := []) X J 0 ho_R_X12.1 ho_R_X12.2.1 ho_R_X12.2.2 yy_X12_goes mw_methodLink_TinyCModel_574_TinyCModel_goes_I (d := 0) (zR_ok (by omega) (by decide)) hl.1 rfl (Nat.le_of_ble_eq_true rfl) (tX12_goes  hc) dX12_logic_1 (fun H locs J => ?_)
  refine lv_if_eq hx hb dX12_logic_4 rfl (fun h => ?_) (fun h => ?_)
  · have hf := itp h hf
    refine lv_iconst (v := (0 : Int32)) hx hb dX12_logic_11 (by decide) ?_
    exact bX12_logic_12 X   J (lv_sub hl [0, 1] rfl) hf
  · have hf := itn h hf
    refine lv_iconst (v := (1 : Int32)) hx hb dX12_logic_7 (by decide) ?_
    refine lv_goto hx hb dX12_logic_8 rfl ?_
    exact bX12_logic_12 X   J (lv_sub hl [0, 1] rfl) hf
set_option maxHeartbeats 4000000 in
theorem tX12_leaves   {σ u : zSt} {r : Unit} (hf : fX12_leaves N  σ = some (r, u)) : zMv l yX12_leaves cX12_leaves 1 none (0) D cy shR ad ts lnR [.ref (ad 0)] σ u := by
  refine zM_of (by decide) (Nat.le_of_ble_eq_true rfl) (fun p e s m args below meth c ls ha X J hl => ?_)
  have hx := X.1
  have hb := X.2.1
  have hl : lv_has ls 1 [(0, .ref (ad 0))] := hl
  generalize s.heap = H at J ⊢
  generalize ([] : List Loc) = locs at J ⊢
  show W p l e (zRm (0)) s m args below meth c H locs 0 0 (zQv D cy shR ad ts lnR below args s (r, u)) (F0 m 0 ls [])
  unfold fX12_leaves at hf
  refine lv_aload_n hx hb dX12_leaves_0 rfl (lv_at hl 0 rfl) ?_
  refine lv_dup hx hb dX12_leaves_1 rfl ?_
  refine gf_X12_512 X J dX12_leaves_2 ?_
  refine lv_iconst (v := (1 : Int32)) hx hb dX12_leaves_5 (by decide) ?_
  refine lv_isub hx hb dX12_leaves_6 ?_
  refine pf_X12_512 X J dX12_leaves_7 (fun σ1 H locs eq J => ?_)
  have hf := bnd_eq eq hf
  clear eq
  refine lv_aload_n hx hb dX12_leaves_10 rfl (lv_at hl 0 rfl) ?_
  refine lv_aload_n hx hb dX12_leaves_11 rfl (lv_at hl 0 rfl) ?_
  refine gf_X12_150 X J dX12_leaves_12 ?_
  refine lv_aload_n hx hb dX12_leaves_15 rfl (lv_at hl 0 rfl) ?_
  refine gf_X12_512 X J dX12_leaves_16 ?_
  obtain ⟨hin, hf⟩ := itx hf
  refine al_X12_X12f85 X J hin dX12_leaves_19 ?_
  refine pf_X12_515 X J dX12_leaves_20 (fun σ2 H locs eq J => ?_)
  have hf := bnd_eq eq hf
  clear eq
  exact zr_vret X J hf dX12_leaves_23
set_option maxHeartbeats 4000000 in
theorem tX12_states {a1_ : Int32}  {σ u : zSt} {r : Unit} (hf : fX12_states N a1_ σ = some (r, u)) : zMv l yX12_states cX12_states 2 none (1) D cy shR ad ts lnR [.ref (ad 0), .int a1_] σ u := by
  refine zM_of (by decide) (Nat.le_of_ble_eq_true rfl) (fun p e s m args below meth c ls ha X J hl => ?_)
  have hx := X.1
  have hb := X.2.1
  have hl : lv_has ls 2 [(0, .ref (ad 0)), (1, .int a1_)] := hl
  generalize s.heap = H at J ⊢
  generalize ([] : List Loc) = locs at J ⊢
  show W p l e (zRm (1)) s m args below meth c H locs 0 0 (zQv D cy shR ad ts lnR below args s (r, u)) (F0 m 0 ls [])
  unfold fX12_states at hf
  refine lv_aload_n hx hb dX12_states_0 rfl (lv_at hl 0 rfl) ?_
  refine gf_X12_53 X J dX12_states_1 ?_
  refine lv_iload_n hx hb dX12_states_4 rfl (lv_at hl 1 rfl) ?_
  obtain ⟨hin, hf⟩ := itx hf
  refine al_X12_X12f39 X J hin dX12_states_5 ?_
  refine lv_topi (fun x1 eq => ?_)
  have hf := bnd_eq eq hf
  clear eq
  by_cases h0_ : x1 = (20 : Int32)
  · have hf := itp h0_ hf
    rw [h0_]
    refine lv_tableIn hx hb dX12_states_6 (by decide) (by decide) (tgt := 64) (by rfl) (by decide) ?_
    refine lv_aload_n hx hb dX12_states_64 rfl (lv_at hl 0 rfl) ?_
    refine gf_X12_56 X J dX12_states_65 ?_
    refine lv_iload_n hx hb dX12_states_68 rfl (lv_at hl 1 rfl) ?_
    obtain ⟨hin, hf⟩ := itx hf
    refine al_X12_X12f40 X J hin dX12_states_69 ?_
    refine lv_if_lt hx hb dX12_states_70 rfl (fun h => ?_) (fun h => ?_)
    · have hf := itp h hf
      exact zr_vret X J hf dX12_states_211
    · have hf := itn h hf
      refine lv_aload_n hx hb dX12_states_73 rfl (lv_at hl 0 rfl) ?_
      refine lv_bipush (v := (7 : Int32)) hx hb dX12_states_74 (by decide) ?_
      refine lv_aload_n hx hb dX12_states_76 rfl (lv_at hl 0 rfl) ?_
      refine gf_X12_56 X J dX12_states_77 ?_
      refine lv_iload_n hx hb dX12_states_80 rfl (lv_at hl 1 rfl) ?_
      obtain ⟨hin, hf⟩ := itx hf
      refine al_X12_X12f40 X J hin dX12_states_81 ?_
      obtain ⟨r2, σ3, hc, hf⟩ := obd_some hf
      refine zr_callv (As := [.int (7 : Int32), .int (zA σ 16 a1_.toNatClampNeg)]) (rest := []) X J 0 ho_R_X12.1 ho_R_X12.2.1 ho_R_X12.2.2 yy_X12_push mw_methodLink_TinyCModel_518_TinyCModel_push_IIV (d := 0) (zR_ok (by omega) (by decide)) hl.1 rfl (Nat.le_of_ble_eq_true rfl) (tX12_push  hc) dX12_states_82 (fun H locs J => ?_)
      refine lv_goto hx hb dX12_states_85 rfl ?_
      exact zr_vret X J hf dX12_states_211
  have hf := itn h0_ hf
  by_cases h1_ : x1 = (21 : Int32)
  · have hf := itp h1_ hf
    rw [h1_]
    refine lv_tableIn hx hb dX12_states_6 (by decide) (by decide) (tgt := 88) (by rfl) (by decide) ?_
    refine lv_aload_n hx hb dX12_states_88 rfl (lv_at hl 0 rfl) ?_
    refine gf_X12_56 X J dX12_states_89 ?_
    refine lv_iload_n hx hb dX12_states_92 rfl (lv_at hl 1 rfl) ?_
    obtain ⟨hin, hf⟩ := itx hf
    refine al_X12_X12f40 X J hin dX12_states_93 ?_
    refine lv_if_ge hx hb dX12_states_94 rfl (fun h => ?_) (fun h => ?_)
    · have hf := itp h hf
      refine lv_aload_n hx hb dX12_states_116 rfl (lv_at hl 0 rfl) ?_
      refine lv_bipush (v := (9 : Int32)) hx hb dX12_states_117 (by decide) ?_
      refine lv_iload_n hx hb dX12_states_119 rfl (lv_at hl 1 rfl) ?_
      obtain ⟨r4, σ5, hc, hf⟩ := obd_some hf
      refine zr_callv (As := [.int (9 : Int32), .int a1_]) (rest := []) X J 0 ho_R_X12.1 ho_R_X12.2.1 ho_R_X12.2.2 yy_X12_push mw_methodLink_TinyCModel_518_TinyCModel_push_IIV (d := 0) (zR_ok (by omega) (by decide)) hl.1 rfl (Nat.le_of_ble_eq_true rfl) (tX12_push  hc) dX12_states_120 (fun H locs J => ?_)
      refine lv_aload_n hx hb dX12_states_123 rfl (lv_at hl 0 rfl) ?_
      refine lv_iconst (v := (2 : Int32)) hx hb dX12_states_124 (by decide) ?_
      refine lv_aload_n hx hb dX12_states_125 rfl (lv_at hl 0 rfl) ?_
      refine gf_X12_56 X J dX12_states_126 ?_
      refine lv_iload_n hx hb dX12_states_129 rfl (lv_at hl 1 rfl) ?_
      obtain ⟨hin, hf⟩ := itx hf
      refine al_X12_X12f40 X J hin dX12_states_130 ?_
      obtain ⟨r6, σ7, hc, hf⟩ := obd_some hf
      refine zr_callv (As := [.int (2 : Int32), .int (zA σ5 16 a1_.toNatClampNeg)]) (rest := []) X J 0 ho_R_X12.1 ho_R_X12.2.1 ho_R_X12.2.2 yy_X12_push mw_methodLink_TinyCModel_518_TinyCModel_push_IIV (d := 0) (zR_ok (by omega) (by decide)) hl.1 rfl (Nat.le_of_ble_eq_true rfl) (tX12_push  hc) dX12_states_131 (fun H locs J => ?_)
      refine lv_goto hx hb dX12_states_134 rfl ?_
      exact zr_vret X J hf dX12_states_211
    · have hf := itn h hf
      refine lv_aload_n hx hb dX12_states_97 rfl (lv_at hl 0 rfl) ?_
      refine gf_X12_147 X J dX12_states_98 ?_
      refine lv_aload_n hx hb dX12_states_101 rfl (lv_at hl 0 rfl) ?_
      refine lv_aload_n hx hb dX12_states_102 rfl (lv_at hl 0 rfl) ?_
      refine gf_X12_65 X J dX12_states_103 ?_
      refine lv_iload_n hx hb dX12_states_106 rfl (lv_at hl 1 rfl) ?_
      obtain ⟨hin, hf⟩ := itx hf
      refine al_X12_X12f43 X J hin dX12_states_107 ?_
      obtain ⟨r8, σ9, hc, hf⟩ := obd_some hf
      refine zr_calli (As := [.int (zA σ 19 a1_.toNatClampNeg)]) (rest := [.ref (ad 46)]) X J 0 ho_R_X12.1 ho_R_X12.2.1 ho_R_X12.2.2 yy_X12_where mw_methodLink_TinyCModel_589_TinyCModel_where_II (d := 0) (zR_ok (by omega) (by decide)) hl.1 rfl (Nat.le_of_ble_eq_true rfl) (tX12_where  hc) dX12_states_108 (fun H locs J => ?_)
      refine lv_iconst (v := (0 : Int32)) hx hb dX12_states_111 (by decide) ?_
      obtain ⟨hin, hf⟩ := itx hf
      refine as_X12_X12f83 X J hin dX12_states_112 (fun σ10 H locs eq J => ?_)
      have hf := bnd_eq eq hf
      clear eq
      refine lv_goto hx hb dX12_states_113 rfl ?_
      exact zr_vret X J hf dX12_states_211
  have hf := itn h1_ hf
  by_cases h2_ : x1 = (22 : Int32)
  · have hf := itp h2_ hf
    rw [h2_]
    refine lv_tableIn hx hb dX12_states_6 (by decide) (by decide) (tgt := 193) (by rfl) (by decide) ?_
    refine lv_aload_n hx hb dX12_states_193 rfl (lv_at hl 0 rfl) ?_
    refine lv_bipush (v := (9 : Int32)) hx hb dX12_states_194 (by decide) ?_
    refine lv_iload_n hx hb dX12_states_196 rfl (lv_at hl 1 rfl) ?_
    obtain ⟨r11, σ12, hc, hf⟩ := obd_some hf
    refine zr_callv (As := [.int (9 : Int32), .int a1_]) (rest := []) X J 0 ho_R_X12.1 ho_R_X12.2.1 ho_R_X12.2.2 yy_X12_push mw_methodLink_TinyCModel_518_TinyCModel_push_IIV (d := 0) (zR_ok (by omega) (by decide)) hl.1 rfl (Nat.le_of_ble_eq_true rfl) (tX12_push  hc) dX12_states_197 (fun H locs J => ?_)
    refine lv_aload_n hx hb dX12_states_200 rfl (lv_at hl 0 rfl) ?_
    refine lv_iconst (v := (2 : Int32)) hx hb dX12_states_201 (by decide) ?_
    refine lv_aload_n hx hb dX12_states_202 rfl (lv_at hl 0 rfl) ?_
    refine gf_X12_56 X J dX12_states_203 ?_
    refine lv_iload_n hx hb dX12_states_206 rfl (lv_at hl 1 rfl) ?_
    obtain ⟨hin, hf⟩ := itx hf
    refine al_X12_X12f40 X J hin dX12_states_207 ?_
    obtain ⟨r13, σ14, hc, hf⟩ := obd_some hf
    refine zr_callv (As := [.int (2 : Int32), .int (zA σ12 16 a1_.toNatClampNeg)]) (rest := []) X J 0 ho_R_X12.1 ho_R_X12.2.1 ho_R_X12.2.2 yy_X12_push mw_methodLink_TinyCModel_518_TinyCModel_push_IIV (d := 0) (zR_ok (by omega) (by decide)) hl.1 rfl (Nat.le_of_ble_eq_true rfl) (tX12_push  hc) dX12_states_208 (fun H locs J => ?_)
    exact zr_vret X J hf dX12_states_211
  have hf := itn h2_ hf
  by_cases h3_ : x1 = (23 : Int32)
  · have hf := itp h3_ hf
    rw [h3_]
    refine lv_tableIn hx hb dX12_states_6 (by decide) (by decide) (tgt := 193) (by rfl) (by decide) ?_
    refine lv_aload_n hx hb dX12_states_193 rfl (lv_at hl 0 rfl) ?_
    refine lv_bipush (v := (9 : Int32)) hx hb dX12_states_194 (by decide) ?_
    refine lv_iload_n hx hb dX12_states_196 rfl (lv_at hl 1 rfl) ?_
    obtain ⟨r15, σ16, hc, hf⟩ := obd_some hf
    refine zr_callv (As := [.int (9 : Int32), .int a1_]) (rest := []) X J 0 ho_R_X12.1 ho_R_X12.2.1 ho_R_X12.2.2 yy_X12_push mw_methodLink_TinyCModel_518_TinyCModel_push_IIV (d := 0) (zR_ok (by omega) (by decide)) hl.1 rfl (Nat.le_of_ble_eq_true rfl) (tX12_push  hc) dX12_states_197 (fun H locs J => ?_)
    refine lv_aload_n hx hb dX12_states_200 rfl (lv_at hl 0 rfl) ?_
    refine lv_iconst (v := (2 : Int32)) hx hb dX12_states_201 (by decide) ?_
    refine lv_aload_n hx hb dX12_states_202 rfl (lv_at hl 0 rfl) ?_
    refine gf_X12_56 X J dX12_states_203 ?_
    refine lv_iload_n hx hb dX12_states_206 rfl (lv_at hl 1 rfl) ?_
    obtain ⟨hin, hf⟩ := itx hf
    refine al_X12_X12f40 X J hin dX12_states_207 ?_
    obtain ⟨r17, σ18, hc, hf⟩ := obd_some hf
    refine zr_callv (As := [.int (2 : Int32), .int (zA σ16 16 a1_.toNatClampNeg)]) (rest := []) X J 0 ho_R_X12.1 ho_R_X12.2.1 ho_R_X12.2.2 yy_X12_push mw_methodLink_TinyCModel_518_TinyCModel_push_IIV (d := 0) (zR_ok (by omega) (by decide)) hl.1 rfl (Nat.le_of_ble_eq_true rfl) (tX12_push  hc) dX12_states_208 (fun H locs J => ?_)
    exact zr_vret X J hf dX12_states_211
  have hf := itn h3_ hf
  by_cases h4_ : x1 = (24 : Int32)
  · have hf := itp h4_ hf
    rw [h4_]
    refine lv_tableIn hx hb dX12_states_6 (by decide) (by decide) (tgt := 193) (by rfl) (by decide) ?_
    refine lv_aload_n hx hb dX12_states_193 rfl (lv_at hl 0 rfl) ?_
    refine lv_bipush (v := (9 : Int32)) hx hb dX12_states_194 (by decide) ?_
    refine lv_iload_n hx hb dX12_states_196 rfl (lv_at hl 1 rfl) ?_
    obtain ⟨r19, σ20, hc, hf⟩ := obd_some hf
    refine zr_callv (As := [.int (9 : Int32), .int a1_]) (rest := []) X J 0 ho_R_X12.1 ho_R_X12.2.1 ho_R_X12.2.2 yy_X12_push mw_methodLink_TinyCModel_518_TinyCModel_push_IIV (d := 0) (zR_ok (by omega) (by decide)) hl.1 rfl (Nat.le_of_ble_eq_true rfl) (tX12_push  hc) dX12_states_197 (fun H locs J => ?_)
    refine lv_aload_n hx hb dX12_states_200 rfl (lv_at hl 0 rfl) ?_
    refine lv_iconst (v := (2 : Int32)) hx hb dX12_states_201 (by decide) ?_
    refine lv_aload_n hx hb dX12_states_202 rfl (lv_at hl 0 rfl) ?_
    refine gf_X12_56 X J dX12_states_203 ?_
    refine lv_iload_n hx hb dX12_states_206 rfl (lv_at hl 1 rfl) ?_
    obtain ⟨hin, hf⟩ := itx hf
    refine al_X12_X12f40 X J hin dX12_states_207 ?_
    obtain ⟨r21, σ22, hc, hf⟩ := obd_some hf
    refine zr_callv (As := [.int (2 : Int32), .int (zA σ20 16 a1_.toNatClampNeg)]) (rest := []) X J 0 ho_R_X12.1 ho_R_X12.2.1 ho_R_X12.2.2 yy_X12_push mw_methodLink_TinyCModel_518_TinyCModel_push_IIV (d := 0) (zR_ok (by omega) (by decide)) hl.1 rfl (Nat.le_of_ble_eq_true rfl) (tX12_push  hc) dX12_states_208 (fun H locs J => ?_)
    exact zr_vret X J hf dX12_states_211
  have hf := itn h4_ hf
  by_cases h5_ : x1 = (25 : Int32)
  · have hf := itp h5_ hf
    rw [h5_]
    refine lv_tableIn hx hb dX12_states_6 (by decide) (by decide) (tgt := 193) (by rfl) (by decide) ?_
    refine lv_aload_n hx hb dX12_states_193 rfl (lv_at hl 0 rfl) ?_
    refine lv_bipush (v := (9 : Int32)) hx hb dX12_states_194 (by decide) ?_
    refine lv_iload_n hx hb dX12_states_196 rfl (lv_at hl 1 rfl) ?_
    obtain ⟨r23, σ24, hc, hf⟩ := obd_some hf
    refine zr_callv (As := [.int (9 : Int32), .int a1_]) (rest := []) X J 0 ho_R_X12.1 ho_R_X12.2.1 ho_R_X12.2.2 yy_X12_push mw_methodLink_TinyCModel_518_TinyCModel_push_IIV (d := 0) (zR_ok (by omega) (by decide)) hl.1 rfl (Nat.le_of_ble_eq_true rfl) (tX12_push  hc) dX12_states_197 (fun H locs J => ?_)
    refine lv_aload_n hx hb dX12_states_200 rfl (lv_at hl 0 rfl) ?_
    refine lv_iconst (v := (2 : Int32)) hx hb dX12_states_201 (by decide) ?_
    refine lv_aload_n hx hb dX12_states_202 rfl (lv_at hl 0 rfl) ?_
    refine gf_X12_56 X J dX12_states_203 ?_
    refine lv_iload_n hx hb dX12_states_206 rfl (lv_at hl 1 rfl) ?_
    obtain ⟨hin, hf⟩ := itx hf
    refine al_X12_X12f40 X J hin dX12_states_207 ?_
    obtain ⟨r25, σ26, hc, hf⟩ := obd_some hf
    refine zr_callv (As := [.int (2 : Int32), .int (zA σ24 16 a1_.toNatClampNeg)]) (rest := []) X J 0 ho_R_X12.1 ho_R_X12.2.1 ho_R_X12.2.2 yy_X12_push mw_methodLink_TinyCModel_518_TinyCModel_push_IIV (d := 0) (zR_ok (by omega) (by decide)) hl.1 rfl (Nat.le_of_ble_eq_true rfl) (tX12_push  hc) dX12_states_208 (fun H locs J => ?_)
    exact zr_vret X J hf dX12_states_211
  have hf := itn h5_ hf
  by_cases h6_ : x1 = (26 : Int32)
  · have hf := itp h6_ hf
    rw [h6_]
    refine lv_tableIn hx hb dX12_states_6 (by decide) (by decide) (tgt := 193) (by rfl) (by decide) ?_
    refine lv_aload_n hx hb dX12_states_193 rfl (lv_at hl 0 rfl) ?_
    refine lv_bipush (v := (9 : Int32)) hx hb dX12_states_194 (by decide) ?_
    refine lv_iload_n hx hb dX12_states_196 rfl (lv_at hl 1 rfl) ?_
    obtain ⟨r27, σ28, hc, hf⟩ := obd_some hf
    refine zr_callv (As := [.int (9 : Int32), .int a1_]) (rest := []) X J 0 ho_R_X12.1 ho_R_X12.2.1 ho_R_X12.2.2 yy_X12_push mw_methodLink_TinyCModel_518_TinyCModel_push_IIV (d := 0) (zR_ok (by omega) (by decide)) hl.1 rfl (Nat.le_of_ble_eq_true rfl) (tX12_push  hc) dX12_states_197 (fun H locs J => ?_)
    refine lv_aload_n hx hb dX12_states_200 rfl (lv_at hl 0 rfl) ?_
    refine lv_iconst (v := (2 : Int32)) hx hb dX12_states_201 (by decide) ?_
    refine lv_aload_n hx hb dX12_states_202 rfl (lv_at hl 0 rfl) ?_
    refine gf_X12_56 X J dX12_states_203 ?_
    refine lv_iload_n hx hb dX12_states_206 rfl (lv_at hl 1 rfl) ?_
    obtain ⟨hin, hf⟩ := itx hf
    refine al_X12_X12f40 X J hin dX12_states_207 ?_
    obtain ⟨r29, σ30, hc, hf⟩ := obd_some hf
    refine zr_callv (As := [.int (2 : Int32), .int (zA σ28 16 a1_.toNatClampNeg)]) (rest := []) X J 0 ho_R_X12.1 ho_R_X12.2.1 ho_R_X12.2.2 yy_X12_push mw_methodLink_TinyCModel_518_TinyCModel_push_IIV (d := 0) (zR_ok (by omega) (by decide)) hl.1 rfl (Nat.le_of_ble_eq_true rfl) (tX12_push  hc) dX12_states_208 (fun H locs J => ?_)
    exact zr_vret X J hf dX12_states_211
  have hf := itn h6_ hf
  by_cases h7_ : x1 = (27 : Int32)
  · have hf := itp h7_ hf
    rw [h7_]
    refine lv_tableIn hx hb dX12_states_6 (by decide) (by decide) (tgt := 193) (by rfl) (by decide) ?_
    refine lv_aload_n hx hb dX12_states_193 rfl (lv_at hl 0 rfl) ?_
    refine lv_bipush (v := (9 : Int32)) hx hb dX12_states_194 (by decide) ?_
    refine lv_iload_n hx hb dX12_states_196 rfl (lv_at hl 1 rfl) ?_
    obtain ⟨r31, σ32, hc, hf⟩ := obd_some hf
    refine zr_callv (As := [.int (9 : Int32), .int a1_]) (rest := []) X J 0 ho_R_X12.1 ho_R_X12.2.1 ho_R_X12.2.2 yy_X12_push mw_methodLink_TinyCModel_518_TinyCModel_push_IIV (d := 0) (zR_ok (by omega) (by decide)) hl.1 rfl (Nat.le_of_ble_eq_true rfl) (tX12_push  hc) dX12_states_197 (fun H locs J => ?_)
    refine lv_aload_n hx hb dX12_states_200 rfl (lv_at hl 0 rfl) ?_
    refine lv_iconst (v := (2 : Int32)) hx hb dX12_states_201 (by decide) ?_
    refine lv_aload_n hx hb dX12_states_202 rfl (lv_at hl 0 rfl) ?_
    refine gf_X12_56 X J dX12_states_203 ?_
    refine lv_iload_n hx hb dX12_states_206 rfl (lv_at hl 1 rfl) ?_
    obtain ⟨hin, hf⟩ := itx hf
    refine al_X12_X12f40 X J hin dX12_states_207 ?_
    obtain ⟨r33, σ34, hc, hf⟩ := obd_some hf
    refine zr_callv (As := [.int (2 : Int32), .int (zA σ32 16 a1_.toNatClampNeg)]) (rest := []) X J 0 ho_R_X12.1 ho_R_X12.2.1 ho_R_X12.2.2 yy_X12_push mw_methodLink_TinyCModel_518_TinyCModel_push_IIV (d := 0) (zR_ok (by omega) (by decide)) hl.1 rfl (Nat.le_of_ble_eq_true rfl) (tX12_push  hc) dX12_states_208 (fun H locs J => ?_)
    exact zr_vret X J hf dX12_states_211
  have hf := itn h7_ hf
  by_cases h8_ : x1 = (28 : Int32)
  · have hf := itp h8_ hf
    rw [h8_]
    refine lv_tableIn hx hb dX12_states_6 (by decide) (by decide) (tgt := 137) (by rfl) (by decide) ?_
    refine lv_aload_n hx hb dX12_states_137 rfl (lv_at hl 0 rfl) ?_
    refine lv_bipush (v := (9 : Int32)) hx hb dX12_states_138 (by decide) ?_
    refine lv_iload_n hx hb dX12_states_140 rfl (lv_at hl 1 rfl) ?_
    obtain ⟨r35, σ36, hc, hf⟩ := obd_some hf
    refine zr_callv (As := [.int (9 : Int32), .int a1_]) (rest := []) X J 0 ho_R_X12.1 ho_R_X12.2.1 ho_R_X12.2.2 yy_X12_push mw_methodLink_TinyCModel_518_TinyCModel_push_IIV (d := 0) (zR_ok (by omega) (by decide)) hl.1 rfl (Nat.le_of_ble_eq_true rfl) (tX12_push  hc) dX12_states_141 (fun H locs J => ?_)
    refine lv_aload_n hx hb dX12_states_144 rfl (lv_at hl 0 rfl) ?_
    refine lv_iconst (v := (2 : Int32)) hx hb dX12_states_145 (by decide) ?_
    refine lv_aload_n hx hb dX12_states_146 rfl (lv_at hl 0 rfl) ?_
    refine gf_X12_59 X J dX12_states_147 ?_
    refine lv_iload_n hx hb dX12_states_150 rfl (lv_at hl 1 rfl) ?_
    obtain ⟨hin, hf⟩ := itx hf
    refine al_X12_X12f41 X J hin dX12_states_151 ?_
    obtain ⟨r37, σ38, hc, hf⟩ := obd_some hf
    refine zr_callv (As := [.int (2 : Int32), .int (zA σ36 17 a1_.toNatClampNeg)]) (rest := []) X J 0 ho_R_X12.1 ho_R_X12.2.1 ho_R_X12.2.2 yy_X12_push mw_methodLink_TinyCModel_518_TinyCModel_push_IIV (d := 0) (zR_ok (by omega) (by decide)) hl.1 rfl (Nat.le_of_ble_eq_true rfl) (tX12_push  hc) dX12_states_152 (fun H locs J => ?_)
    refine lv_aload_n hx hb dX12_states_155 rfl (lv_at hl 0 rfl) ?_
    refine lv_iconst (v := (2 : Int32)) hx hb dX12_states_156 (by decide) ?_
    refine lv_aload_n hx hb dX12_states_157 rfl (lv_at hl 0 rfl) ?_
    refine gf_X12_56 X J dX12_states_158 ?_
    refine lv_iload_n hx hb dX12_states_161 rfl (lv_at hl 1 rfl) ?_
    obtain ⟨hin, hf⟩ := itx hf
    refine al_X12_X12f40 X J hin dX12_states_162 ?_
    obtain ⟨r39, σ40, hc, hf⟩ := obd_some hf
    refine zr_callv (As := [.int (2 : Int32), .int (zA σ38 16 a1_.toNatClampNeg)]) (rest := []) X J 0 ho_R_X12.1 ho_R_X12.2.1 ho_R_X12.2.2 yy_X12_push mw_methodLink_TinyCModel_518_TinyCModel_push_IIV (d := 0) (zR_ok (by omega) (by decide)) hl.1 rfl (Nat.le_of_ble_eq_true rfl) (tX12_push  hc) dX12_states_163 (fun H locs J => ?_)
    refine lv_goto hx hb dX12_states_166 rfl ?_
    exact zr_vret X J hf dX12_states_211
  have hf := itn h8_ hf
  by_cases h9_ : x1 = (29 : Int32)
  · have hf := itp h9_ hf
    rw [h9_]
    refine lv_tableIn hx hb dX12_states_6 (by decide) (by decide) (tgt := 169) (by rfl) (by decide) ?_
    refine lv_aload_n hx hb dX12_states_169 rfl (lv_at hl 0 rfl) ?_
    refine lv_bipush (v := (10 : Int32)) hx hb dX12_states_170 (by decide) ?_
    refine lv_iload_n hx hb dX12_states_172 rfl (lv_at hl 1 rfl) ?_
    obtain ⟨r41, σ42, hc, hf⟩ := obd_some hf
    refine zr_callv (As := [.int (10 : Int32), .int a1_]) (rest := []) X J 0 ho_R_X12.1 ho_R_X12.2.1 ho_R_X12.2.2 yy_X12_push mw_methodLink_TinyCModel_518_TinyCModel_push_IIV (d := 0) (zR_ok (by omega) (by decide)) hl.1 rfl (Nat.le_of_ble_eq_true rfl) (tX12_push  hc) dX12_states_173 (fun H locs J => ?_)
    refine lv_aload_n hx hb dX12_states_176 rfl (lv_at hl 0 rfl) ?_
    refine lv_iconst (v := (2 : Int32)) hx hb dX12_states_177 (by decide) ?_
    refine lv_aload_n hx hb dX12_states_178 rfl (lv_at hl 0 rfl) ?_
    refine gf_X12_56 X J dX12_states_179 ?_
    refine lv_iload_n hx hb dX12_states_182 rfl (lv_at hl 1 rfl) ?_
    obtain ⟨hin, hf⟩ := itx hf
    refine al_X12_X12f40 X J hin dX12_states_183 ?_
    obtain ⟨r43, σ44, hc, hf⟩ := obd_some hf
    refine zr_callv (As := [.int (2 : Int32), .int (zA σ42 16 a1_.toNatClampNeg)]) (rest := []) X J 0 ho_R_X12.1 ho_R_X12.2.1 ho_R_X12.2.2 yy_X12_push mw_methodLink_TinyCModel_518_TinyCModel_push_IIV (d := 0) (zR_ok (by omega) (by decide)) hl.1 rfl (Nat.le_of_ble_eq_true rfl) (tX12_push  hc) dX12_states_184 (fun H locs J => ?_)
    refine lv_goto hx hb dX12_states_187 rfl ?_
    exact zr_vret X J hf dX12_states_211
  have hf := itn h9_ hf
  by_cases h10_ : x1 = (30 : Int32)
  · have hf := itp h10_ hf
    rw [h10_]
    refine lv_tableIn hx hb dX12_states_6 (by decide) (by decide) (tgt := 190) (by rfl) (by decide) ?_
    refine lv_goto hx hb dX12_states_190 rfl ?_
    exact zr_vret X J hf dX12_states_211
  have hf := itn h10_ hf
  refine lv_tableOut hx hb dX12_states_6 (tgt := 193) (by have := lv_neT h0_ (a := 20) (by decide); have := lv_neT h1_ (a := 21) (by decide); have := lv_neT h2_ (a := 22) (by decide); have := lv_neT h3_ (a := 23) (by decide); have := lv_neT h4_ (a := 24) (by decide); have := lv_neT h5_ (a := 25) (by decide); have := lv_neT h6_ (a := 26) (by decide); have := lv_neT h7_ (a := 27) (by decide); have := lv_neT h8_ (a := 28) (by decide); have := lv_neT h9_ (a := 29) (by decide); have := lv_neT h10_ (a := 30) (by decide); omega) (by decide) ?_
  refine lv_aload_n hx hb dX12_states_193 rfl (lv_at hl 0 rfl) ?_
  refine lv_bipush (v := (9 : Int32)) hx hb dX12_states_194 (by decide) ?_
  refine lv_iload_n hx hb dX12_states_196 rfl (lv_at hl 1 rfl) ?_
  obtain ⟨r45, σ46, hc, hf⟩ := obd_some hf
  refine zr_callv (As := [.int (9 : Int32), .int a1_]) (rest := []) X J 0 ho_R_X12.1 ho_R_X12.2.1 ho_R_X12.2.2 yy_X12_push mw_methodLink_TinyCModel_518_TinyCModel_push_IIV (d := 0) (zR_ok (by omega) (by decide)) hl.1 rfl (Nat.le_of_ble_eq_true rfl) (tX12_push  hc) dX12_states_197 (fun H locs J => ?_)
  refine lv_aload_n hx hb dX12_states_200 rfl (lv_at hl 0 rfl) ?_
  refine lv_iconst (v := (2 : Int32)) hx hb dX12_states_201 (by decide) ?_
  refine lv_aload_n hx hb dX12_states_202 rfl (lv_at hl 0 rfl) ?_
  refine gf_X12_56 X J dX12_states_203 ?_
  refine lv_iload_n hx hb dX12_states_206 rfl (lv_at hl 1 rfl) ?_
  obtain ⟨hin, hf⟩ := itx hf
  refine al_X12_X12f40 X J hin dX12_states_207 ?_
  obtain ⟨r47, σ48, hc, hf⟩ := obd_some hf
  refine zr_callv (As := [.int (2 : Int32), .int (zA σ46 16 a1_.toNatClampNeg)]) (rest := []) X J 0 ho_R_X12.1 ho_R_X12.2.1 ho_R_X12.2.2 yy_X12_push mw_methodLink_TinyCModel_518_TinyCModel_push_IIV (d := 0) (zR_ok (by omega) (by decide)) hl.1 rfl (Nat.le_of_ble_eq_true rfl) (tX12_push  hc) dX12_states_208 (fun H locs J => ?_)
  exact zr_vret X J hf dX12_states_211
set_option maxHeartbeats 4000000 in
theorem bX12_does_216 {o : Unit × zSt} (X : zX p s m args meth c D cy shR ad ts cX12_does 4 none RX12)  : ∀ (n : Nat)  (σ : zSt) (H : Heap) (locs : List Loc) (ls : Array Slot), zJ D cy shR ad lnR s σ H locs → lv_has ls 4 [(0, .ref (ad 0))] → fX12_does_b216 N  n  σ = some o → W p l e (zRm (1)) s m args below meth c H locs 0 0 (zQv D cy shR ad ts lnR below args s o) (F0 m 216 ls []) := by
  have hx := X.1
  have hb := X.2.1
  intro n
  induction n with
  | zero =>
    intro  σ H locs ls J hl hf
    rw [fX12_does_b216] at hf
    cases hf
  | succ n ih =>
    intro  σ H locs ls J hl hf
    rw [fX12_does_b216] at hf
    refine lv_aload_n hx hb dX12_does_216 rfl (lv_at hl 0 rfl) ?_
    refine gf_X12_141 X J dX12_does_217 ?_
    refine lv_aload_n hx hb dX12_does_220 rfl (lv_at hl 0 rfl) ?_
    refine gf_X12_509 X J dX12_does_221 ?_
    refine lv_iconst (v := (1 : Int32)) hx hb dX12_does_224 (by decide) ?_
    refine lv_isub hx hb dX12_does_225 ?_
    obtain ⟨hin, hf⟩ := itx hf
    refine al_X12_X12f80 X J hin dX12_does_226 ?_
    refine lv_bipush (v := (6 : Int32)) hx hb dX12_does_227 (by decide) ?_
    refine lv_icmp_eq hx hb dX12_does_229 rfl (fun h => ?_) (fun h => ?_)
    · have hf := itp h hf
      refine lv_aload_n hx hb dX12_does_245 rfl (lv_at hl 0 rfl) ?_
      refine lv_dup hx hb dX12_does_246 rfl ?_
      refine gf_X12_509 X J dX12_does_247 ?_
      refine lv_iconst (v := (1 : Int32)) hx hb dX12_does_250 (by decide) ?_
      refine lv_isub hx hb dX12_does_251 ?_
      refine pf_X12_509 X J dX12_does_252 (fun σ17 H locs eq J => ?_)
      have hf := bnd_eq eq hf
      clear eq
      refine lv_aload_n hx hb dX12_does_255 rfl (lv_at hl 0 rfl) ?_
      obtain ⟨r18, σ19, hc, hf⟩ := obd_some hf
      refine zr_callv (As := []) (rest := []) X J 0 ho_R_X12.1 ho_R_X12.2.1 ho_R_X12.2.2 yy_X12_leaves mw_methodLink_TinyCModel_580_TinyCModel_leaves_V (d := 0) (zR_ok (by omega) (by decide)) hl.1 rfl (Nat.le_of_ble_eq_true rfl) (tX12_leaves  hc) dX12_does_256 (fun H locs J => ?_)
      exact zr_vret X J hf dX12_does_259
    · have hf := itn h hf
      refine lv_aload_n hx hb dX12_does_232 rfl (lv_at hl 0 rfl) ?_
      refine lv_dup hx hb dX12_does_233 rfl ?_
      refine gf_X12_509 X J dX12_does_234 ?_
      refine lv_iconst (v := (1 : Int32)) hx hb dX12_does_237 (by decide) ?_
      refine lv_isub hx hb dX12_does_238 ?_
      refine pf_X12_509 X J dX12_does_239 (fun σ20 H locs eq J => ?_)
      have hf := bnd_eq eq hf
      clear eq
      refine lv_goto hx hb dX12_does_242 rfl ?_
      exact ih _ _ _ _ J (lv_sub hl [0] rfl) hf
set_option maxHeartbeats 4000000 in
theorem bX12_does_186 {o : Unit × zSt} (X : zX p s m args meth c D cy shR ad ts cX12_does 4 none RX12)    {σ : zSt} {H : Heap} {locs : List Loc} {ls : Array Slot} (J : zJ D cy shR ad lnR s σ H locs) (hl : lv_has ls 4 [(0, .ref (ad 0))]) (hf : fX12_does_b186 N   σ = some o) : W p l e (zRm (1)) s m args below meth c H locs 0 0 (zQv D cy shR ad ts lnR below args s o) (F0 m 186 ls []) := by
  have hx := X.1
  have hb := X.2.1
  unfold fX12_does_b186 at hf
  refine lv_aload_n hx hb dX12_does_186 rfl (lv_at hl 0 rfl) ?_
  refine lv_iconst (v := (3 : Int32)) hx hb dX12_does_187 (by decide) ?_
  refine pf_X12_494 X J dX12_does_188 (fun σ29 H locs eq J => ?_)
  have hf := bnd_eq eq hf
  clear eq
  refine lv_goto hx hb dX12_does_191 rfl ?_
  exact zr_vret X J hf dX12_does_259
set_option maxHeartbeats 4000000 in
theorem tX12_does {a1_ : Int32}  {σ u : zSt} {r : Unit} (hf : fX12_does N a1_ σ = some (r, u)) : zMv l yX12_does cX12_does 4 none (1) D cy shR ad ts lnR [.ref (ad 0), .int a1_] σ u := by
  refine zM_of (by decide) (Nat.le_of_ble_eq_true rfl) (fun p e s m args below meth c ls ha X J hl => ?_)
  have hx := X.1
  have hb := X.2.1
  have hl : lv_has ls 4 [(0, .ref (ad 0)), (1, .int a1_)] := hl
  generalize s.heap = H at J ⊢
  generalize ([] : List Loc) = locs at J ⊢
  show W p l e (zRm (1)) s m args below meth c H locs 0 0 (zQv D cy shR ad ts lnR below args s (r, u)) (F0 m 0 ls [])
  unfold fX12_does at hf
  refine lv_aload_n hx hb dX12_does_0 rfl (lv_at hl 0 rfl) ?_
  obtain ⟨r1, σ2, hc, hf⟩ := obd_some hf
  refine zr_calli (As := []) (rest := []) X J 0 ho_R_X12.1 ho_R_X12.2.1 ho_R_X12.2.2 yy_X12_goes mw_methodLink_TinyCModel_574_TinyCModel_goes_I (d := 0) (zR_ok (by omega) (by decide)) hl.1 rfl (Nat.le_of_ble_eq_true rfl) (tX12_goes  hc) dX12_does_1 (fun H locs J => ?_)
  refine lv_istore_n hx hb dX12_does_4 rfl hl (by decide) rfl (fun ls hl => ?_)
  have hl : lv_has ls 4 [(2, .int r1), (0, .ref (ad 0)), (1, .int a1_)] := hl
  refine lv_aload_n hx hb dX12_does_5 rfl (lv_at hl 1 rfl) ?_
  refine gf_X12_53 X J dX12_does_6 ?_
  refine lv_iload_n hx hb dX12_does_9 rfl (lv_at hl 2 rfl) ?_
  obtain ⟨hin, hf⟩ := itx hf
  refine al_X12_X12f39 X J hin dX12_does_10 ?_
  refine lv_topi (fun x3 eq => ?_)
  have hf := bnd_eq eq hf
  clear eq
  by_cases h0_ : x3 = (21 : Int32)
  · have hf := itp h0_ hf
    rw [h0_]
    refine lv_tableIn hx hb dX12_does_11 (by decide) (by decide) (tgt := 56) (by rfl) (by decide) ?_
    refine lv_aload_n hx hb dX12_does_56 rfl (lv_at hl 1 rfl) ?_
    refine gf_X12_147 X J dX12_does_57 ?_
    refine lv_aload_n hx hb dX12_does_60 rfl (lv_at hl 1 rfl) ?_
    refine lv_aload_n hx hb dX12_does_61 rfl (lv_at hl 1 rfl) ?_
    refine gf_X12_65 X J dX12_does_62 ?_
    refine lv_iload_n hx hb dX12_does_65 rfl (lv_at hl 2 rfl) ?_
    obtain ⟨hin, hf⟩ := itx hf
    refine al_X12_X12f43 X J hin dX12_does_66 ?_
    obtain ⟨r4, σ5, hc, hf⟩ := obd_some hf
    refine zr_calli (As := [.int (zA σ2 19 a1_.toNatClampNeg)]) (rest := [.ref (ad 46)]) X J 0 ho_R_X12.1 ho_R_X12.2.1 ho_R_X12.2.2 yy_X12_where mw_methodLink_TinyCModel_589_TinyCModel_where_II (d := 0) (zR_ok (by omega) (by decide)) hl.1 rfl (Nat.le_of_ble_eq_true rfl) (tX12_where  hc) dX12_does_67 (fun H locs J => ?_)
    refine lv_iload_n hx hb dX12_does_70 rfl (lv_at hl 0 rfl) ?_
    obtain ⟨hin, hf⟩ := itx hf
    refine as_X12_X12f83 X J hin dX12_does_71 (fun σ6 H locs eq J => ?_)
    have hf := bnd_eq eq hf
    clear eq
    refine lv_goto hx hb dX12_does_72 rfl ?_
    exact zr_vret X J hf dX12_does_259
  have hf := itn h0_ hf
  by_cases h1_ : x3 = (22 : Int32)
  · have hf := itp h1_ hf
    rw [h1_]
    refine lv_tableIn hx hb dX12_does_11 (by decide) (by decide) (tgt := 98) (by rfl) (by decide) ?_
    refine lv_iload_n hx hb dX12_does_98 rfl (lv_at hl 0 rfl) ?_
    refine lv_if_eq hx hb dX12_does_99 rfl (fun h => ?_) (fun h => ?_)
    · have hf := itp h hf
      refine lv_aload_n hx hb dX12_does_117 rfl (lv_at hl 1 rfl) ?_
      refine gf_X12_62 X J dX12_does_118 ?_
      refine lv_iload_n hx hb dX12_does_121 rfl (lv_at hl 2 rfl) ?_
      obtain ⟨hin, hf⟩ := itx hf
      refine al_X12_X12f42 X J hin dX12_does_122 ?_
      refine lv_if_lt hx hb dX12_does_123 rfl (fun h => ?_) (fun h => ?_)
      · have hf := itp h hf
        exact zr_vret X J hf dX12_does_259
      · have hf := itn h hf
        refine lv_aload_n hx hb dX12_does_126 rfl (lv_at hl 1 rfl) ?_
        refine lv_bipush (v := (8 : Int32)) hx hb dX12_does_127 (by decide) ?_
        refine lv_aload_n hx hb dX12_does_129 rfl (lv_at hl 1 rfl) ?_
        refine gf_X12_62 X J dX12_does_130 ?_
        refine lv_iload_n hx hb dX12_does_133 rfl (lv_at hl 2 rfl) ?_
        obtain ⟨hin, hf⟩ := itx hf
        refine al_X12_X12f42 X J hin dX12_does_134 ?_
        obtain ⟨r7, σ8, hc, hf⟩ := obd_some hf
        refine zr_callv (As := [.int (8 : Int32), .int (zA σ2 18 a1_.toNatClampNeg)]) (rest := []) X J 0 ho_R_X12.1 ho_R_X12.2.1 ho_R_X12.2.2 yy_X12_push mw_methodLink_TinyCModel_518_TinyCModel_push_IIV (d := 0) (zR_ok (by omega) (by decide)) hl.1 rfl (Nat.le_of_ble_eq_true rfl) (tX12_push  hc) dX12_does_135 (fun H locs J => ?_)
        refine lv_goto hx hb dX12_does_138 rfl ?_
        exact zr_vret X J hf dX12_does_259
    · have hf := itn h hf
      refine lv_aload_n hx hb dX12_does_102 rfl (lv_at hl 1 rfl) ?_
      refine lv_bipush (v := (8 : Int32)) hx hb dX12_does_103 (by decide) ?_
      refine lv_aload_n hx hb dX12_does_105 rfl (lv_at hl 1 rfl) ?_
      refine gf_X12_59 X J dX12_does_106 ?_
      refine lv_iload_n hx hb dX12_does_109 rfl (lv_at hl 2 rfl) ?_
      obtain ⟨hin, hf⟩ := itx hf
      refine al_X12_X12f41 X J hin dX12_does_110 ?_
      obtain ⟨r9, σ10, hc, hf⟩ := obd_some hf
      refine zr_callv (As := [.int (8 : Int32), .int (zA σ2 17 a1_.toNatClampNeg)]) (rest := []) X J 0 ho_R_X12.1 ho_R_X12.2.1 ho_R_X12.2.2 yy_X12_push mw_methodLink_TinyCModel_518_TinyCModel_push_IIV (d := 0) (zR_ok (by omega) (by decide)) hl.1 rfl (Nat.le_of_ble_eq_true rfl) (tX12_push  hc) dX12_does_111 (fun H locs J => ?_)
      refine lv_goto hx hb dX12_does_114 rfl ?_
      exact zr_vret X J hf dX12_does_259
  have hf := itn h1_ hf
  by_cases h2_ : x3 = (23 : Int32)
  · have hf := itp h2_ hf
    rw [h2_]
    refine lv_tableIn hx hb dX12_does_11 (by decide) (by decide) (tgt := 141) (by rfl) (by decide) ?_
    refine lv_iload_n hx hb dX12_does_141 rfl (lv_at hl 0 rfl) ?_
    refine lv_if_eq hx hb dX12_does_142 rfl (fun h => ?_) (fun h => ?_)
    · have hf := itp h hf
      exact zr_vret X J hf dX12_does_259
    · have hf := itn h hf
      refine lv_aload_n hx hb dX12_does_145 rfl (lv_at hl 1 rfl) ?_
      refine lv_bipush (v := (8 : Int32)) hx hb dX12_does_146 (by decide) ?_
      refine lv_iload_n hx hb dX12_does_148 rfl (lv_at hl 2 rfl) ?_
      obtain ⟨r11, σ12, hc, hf⟩ := obd_some hf
      refine zr_callv (As := [.int (8 : Int32), .int a1_]) (rest := []) X J 0 ho_R_X12.1 ho_R_X12.2.1 ho_R_X12.2.2 yy_X12_push mw_methodLink_TinyCModel_518_TinyCModel_push_IIV (d := 0) (zR_ok (by omega) (by decide)) hl.1 rfl (Nat.le_of_ble_eq_true rfl) (tX12_push  hc) dX12_does_149 (fun H locs J => ?_)
      refine lv_aload_n hx hb dX12_does_152 rfl (lv_at hl 1 rfl) ?_
      refine lv_bipush (v := (8 : Int32)) hx hb dX12_does_153 (by decide) ?_
      refine lv_aload_n hx hb dX12_does_155 rfl (lv_at hl 1 rfl) ?_
      refine gf_X12_59 X J dX12_does_156 ?_
      refine lv_iload_n hx hb dX12_does_159 rfl (lv_at hl 2 rfl) ?_
      obtain ⟨hin, hf⟩ := itx hf
      refine al_X12_X12f41 X J hin dX12_does_160 ?_
      obtain ⟨r13, σ14, hc, hf⟩ := obd_some hf
      refine zr_callv (As := [.int (8 : Int32), .int (zA σ12 17 a1_.toNatClampNeg)]) (rest := []) X J 0 ho_R_X12.1 ho_R_X12.2.1 ho_R_X12.2.2 yy_X12_push mw_methodLink_TinyCModel_518_TinyCModel_push_IIV (d := 0) (zR_ok (by omega) (by decide)) hl.1 rfl (Nat.le_of_ble_eq_true rfl) (tX12_push  hc) dX12_does_161 (fun H locs J => ?_)
      refine lv_goto hx hb dX12_does_164 rfl ?_
      exact zr_vret X J hf dX12_does_259
  have hf := itn h2_ hf
  by_cases h3_ : x3 = (24 : Int32)
  · have hf := itp h3_ hf
    rw [h3_]
    refine lv_tableIn hx hb dX12_does_11 (by decide) (by decide) (tgt := 211) (by rfl) (by decide) ?_
    refine lv_aload_n hx hb dX12_does_211 rfl (lv_at hl 1 rfl) ?_
    refine lv_iload_n hx hb dX12_does_212 rfl (lv_at hl 0 rfl) ?_
    obtain ⟨r15, σ16, hc, hf⟩ := obd_some hf
    refine zr_callv (As := [.int r1]) (rest := []) X J 0 ho_R_X12.1 ho_R_X12.2.1 ho_R_X12.2.2 yy_X12_gives mw_methodLink_TinyCModel_577_TinyCModel_gives_IV (d := 0) (zR_ok (by omega) (by decide)) hl.1 rfl (Nat.le_of_ble_eq_true rfl) (tX12_gives  hc) dX12_does_213 (fun H locs J => ?_)
    exact bX12_does_216 X  N _ _ _ _ J (lv_sub hl [1] rfl) hf
  have hf := itn h3_ hf
  by_cases h4_ : x3 = (25 : Int32)
  · have hf := itp h4_ hf
    rw [h4_]
    refine lv_tableIn hx hb dX12_does_11 (by decide) (by decide) (tgt := 90) (by rfl) (by decide) ?_
    refine lv_aload_n hx hb dX12_does_90 rfl (lv_at hl 1 rfl) ?_
    refine lv_iload_n hx hb dX12_does_91 rfl (lv_at hl 0 rfl) ?_
    obtain ⟨r21, σ22, hc, hf⟩ := obd_some hf
    refine zr_callv (As := [.int r1]) (rest := []) X J 0 ho_R_X12.1 ho_R_X12.2.1 ho_R_X12.2.2 yy_X12_comesOut mw_methodLink_TinyCModel_547_TinyCModel_comesOut_IV (d := 0) (zR_ok (by omega) (by decide)) hl.1 rfl (Nat.le_of_ble_eq_true rfl) (tX12_comesOut  hc) dX12_does_92 (fun H locs J => ?_)
    refine lv_goto hx hb dX12_does_95 rfl ?_
    exact zr_vret X J hf dX12_does_259
  have hf := itn h4_ hf
  by_cases h5_ : x3 = (26 : Int32)
  · have hf := itp h5_ hf
    rw [h5_]
    refine lv_tableIn hx hb dX12_does_11 (by decide) (by decide) (tgt := 75) (by rfl) (by decide) ?_
    refine lv_aload_n hx hb dX12_does_75 rfl (lv_at hl 1 rfl) ?_
    refine gf_X12_135 X J dX12_does_76 ?_
    refine lv_aload_n hx hb dX12_does_79 rfl (lv_at hl 1 rfl) ?_
    refine gf_X12_65 X J dX12_does_80 ?_
    refine lv_iload_n hx hb dX12_does_83 rfl (lv_at hl 2 rfl) ?_
    obtain ⟨hin, hf⟩ := itx hf
    refine al_X12_X12f43 X J hin dX12_does_84 ?_
    refine lv_iload_n hx hb dX12_does_85 rfl (lv_at hl 0 rfl) ?_
    obtain ⟨hin, hf⟩ := itx hf
    refine as_X12_X12f77 X J hin dX12_does_86 (fun σ23 H locs eq J => ?_)
    have hf := bnd_eq eq hf
    clear eq
    refine lv_goto hx hb dX12_does_87 rfl ?_
    exact zr_vret X J hf dX12_does_259
  have hf := itn h5_ hf
  by_cases h6_ : x3 = (27 : Int32)
  · have hf := itp h6_ hf
    rw [h6_]
    refine lv_tableIn hx hb dX12_does_11 (by decide) (by decide) (tgt := 56) (by rfl) (by decide) ?_
    refine lv_aload_n hx hb dX12_does_56 rfl (lv_at hl 1 rfl) ?_
    refine gf_X12_147 X J dX12_does_57 ?_
    refine lv_aload_n hx hb dX12_does_60 rfl (lv_at hl 1 rfl) ?_
    refine lv_aload_n hx hb dX12_does_61 rfl (lv_at hl 1 rfl) ?_
    refine gf_X12_65 X J dX12_does_62 ?_
    refine lv_iload_n hx hb dX12_does_65 rfl (lv_at hl 2 rfl) ?_
    obtain ⟨hin, hf⟩ := itx hf
    refine al_X12_X12f43 X J hin dX12_does_66 ?_
    obtain ⟨r24, σ25, hc, hf⟩ := obd_some hf
    refine zr_calli (As := [.int (zA σ2 19 a1_.toNatClampNeg)]) (rest := [.ref (ad 46)]) X J 0 ho_R_X12.1 ho_R_X12.2.1 ho_R_X12.2.2 yy_X12_where mw_methodLink_TinyCModel_589_TinyCModel_where_II (d := 0) (zR_ok (by omega) (by decide)) hl.1 rfl (Nat.le_of_ble_eq_true rfl) (tX12_where  hc) dX12_does_67 (fun H locs J => ?_)
    refine lv_iload_n hx hb dX12_does_70 rfl (lv_at hl 0 rfl) ?_
    obtain ⟨hin, hf⟩ := itx hf
    refine as_X12_X12f83 X J hin dX12_does_71 (fun σ26 H locs eq J => ?_)
    have hf := bnd_eq eq hf
    clear eq
    refine lv_goto hx hb dX12_does_72 rfl ?_
    exact zr_vret X J hf dX12_does_259
  have hf := itn h6_ hf
  by_cases h7_ : x3 = (28 : Int32)
  · have hf := itp h7_ hf
    rw [h7_]
    refine lv_tableIn hx hb dX12_does_11 (by decide) (by decide) (tgt := 167) (by rfl) (by decide) ?_
    refine lv_aload_n hx hb dX12_does_167 rfl (lv_at hl 1 rfl) ?_
    obtain ⟨r27, σ28, hc, hf⟩ := obd_some hf
    refine zr_calli (As := []) (rest := []) X J 0 ho_R_X12.1 ho_R_X12.2.1 ho_R_X12.2.2 yy_X12_goes mw_methodLink_TinyCModel_574_TinyCModel_goes_I (d := 0) (zR_ok (by omega) (by decide)) hl.1 rfl (Nat.le_of_ble_eq_true rfl) (tX12_goes  hc) dX12_does_168 (fun H locs J => ?_)
    refine lv_istore_n hx hb dX12_does_171 rfl hl (by decide) rfl (fun ls hl => ?_)
    have hl : lv_has ls 4 [(3, .int r27), (2, .int r1), (0, .ref (ad 0)), (1, .int a1_)] := hl
    refine lv_iload_n hx hb dX12_does_172 rfl (lv_at hl 0 rfl) ?_
    refine lv_if_lt hx hb dX12_does_173 rfl (fun h => ?_) (fun h => ?_)
    · have hf := itp h hf
      exact bX12_does_186 X   J (lv_sub hl [2] rfl) hf
    · have hf := itn h hf
      refine lv_iload_n hx hb dX12_does_176 rfl (lv_at hl 0 rfl) ?_
      refine lv_aload_n hx hb dX12_does_177 rfl (lv_at hl 2 rfl) ?_
      refine gf_X12_68 X J dX12_does_178 ?_
      refine lv_iload_n hx hb dX12_does_181 rfl (lv_at hl 3 rfl) ?_
      obtain ⟨hin, hf⟩ := itx hf
      refine al_X12_X12f44 X J hin dX12_does_182 ?_
      refine lv_icmp_lt hx hb dX12_does_183 rfl (fun h => ?_) (fun h => ?_)
      · have hf := itp h hf
        refine lv_aload_n hx hb dX12_does_194 rfl (lv_at hl 2 rfl) ?_
        refine gf_X12_135 X J dX12_does_195 ?_
        refine lv_aload_n hx hb dX12_does_198 rfl (lv_at hl 2 rfl) ?_
        refine gf_X12_65 X J dX12_does_199 ?_
        refine lv_iload_n hx hb dX12_does_202 rfl (lv_at hl 3 rfl) ?_
        obtain ⟨hin, hf⟩ := itx hf
        refine al_X12_X12f43 X J hin dX12_does_203 ?_
        refine lv_iload_n hx hb dX12_does_204 rfl (lv_at hl 0 rfl) ?_
        refine lv_iadd hx hb dX12_does_205 ?_
        refine lv_iload_n hx hb dX12_does_206 rfl (lv_at hl 1 rfl) ?_
        obtain ⟨hin, hf⟩ := itx hf
        refine as_X12_X12f77 X J hin dX12_does_207 (fun σ30 H locs eq J => ?_)
        have hf := bnd_eq eq hf
        clear eq
        refine lv_goto hx hb dX12_does_208 rfl ?_
        exact zr_vret X J hf dX12_does_259
      · have hf := itn h hf
        exact bX12_does_186 X   J (lv_sub hl [2] rfl) hf
  have hf := itn h7_ hf
  refine lv_tableOut hx hb dX12_does_11 (tgt := 211) (by have := lv_neT h0_ (a := 21) (by decide); have := lv_neT h1_ (a := 22) (by decide); have := lv_neT h2_ (a := 23) (by decide); have := lv_neT h3_ (a := 24) (by decide); have := lv_neT h4_ (a := 25) (by decide); have := lv_neT h5_ (a := 26) (by decide); have := lv_neT h6_ (a := 27) (by decide); have := lv_neT h7_ (a := 28) (by decide); omega) (by decide) ?_
  refine lv_aload_n hx hb dX12_does_211 rfl (lv_at hl 1 rfl) ?_
  refine lv_iload_n hx hb dX12_does_212 rfl (lv_at hl 0 rfl) ?_
  obtain ⟨r31, σ32, hc, hf⟩ := obd_some hf
  refine zr_callv (As := [.int r1]) (rest := []) X J 0 ho_R_X12.1 ho_R_X12.2.1 ho_R_X12.2.2 yy_X12_gives mw_methodLink_TinyCModel_577_TinyCModel_gives_IV (d := 0) (zR_ok (by omega) (by decide)) hl.1 rfl (Nat.le_of_ble_eq_true rfl) (tX12_gives  hc) dX12_does_213 (fun H locs J => ?_)
  exact bX12_does_216 X  N _ _ _ _ J (lv_sub hl [1] rfl) hf
set_option maxHeartbeats 4000000 in
theorem bX12_takesItem_73 {o : Unit × zSt} (X : zX p s m args meth c D cy shR ad ts cX12_takesItem 4 none RX12)  {s0_ : Int32}  {σ : zSt} {H : Heap} {locs : List Loc} {ls : Array Slot} (J : zJ D cy shR ad lnR s σ H locs) (hl : lv_has ls 4 []) (hf : fX12_takesItem_b73 N  s0_ σ = some o) : W p l e (zRm (2)) s m args below meth c H locs 0 0 (zQv D cy shR ad ts lnR below args s o) (F0 m 73 ls [.int s0_, .ref (ad 0)]) := by
  have hx := X.1
  have hb := X.2.1
  unfold fX12_takesItem_b73 at hf
  obtain ⟨r1, σ2, hc, hf⟩ := obd_some hf
  refine zr_callv (As := [.int s0_]) (rest := []) X J 0 ho_R_X12.1 ho_R_X12.2.1 ho_R_X12.2.2 yy_X12_enters mw_methodLink_TinyCModel_562_TinyCModel_enters_IV (d := 1) (zR_ok (by omega) (by decide)) hl.1 rfl (Nat.le_of_ble_eq_true rfl) (tX12_enters  hc) dX12_takesItem_73 (fun H locs J => ?_)
  refine lv_goto hx hb dX12_takesItem_76 rfl ?_
  exact zr_vret X J hf dX12_takesItem_189
set_option maxHeartbeats 4000000 in
theorem bX12_takesItem_116 {o : Unit × zSt} (X : zX p s m args meth c D cy shR ad ts cX12_takesItem 4 none RX12)  {s0_ : Int32}  {σ : zSt} {H : Heap} {locs : List Loc} {ls : Array Slot} (J : zJ D cy shR ad lnR s σ H locs) (hl : lv_has ls 4 []) (hf : fX12_takesItem_b116 N  s0_ σ = some o) : W p l e (zRm (2)) s m args below meth c H locs 0 0 (zQv D cy shR ad ts lnR below args s o) (F0 m 116 ls [.int s0_, .ref (ad 0)]) := by
  have hx := X.1
  have hb := X.2.1
  unfold fX12_takesItem_b116 at hf
  obtain ⟨r13, σ14, hc, hf⟩ := obd_some hf
  refine zr_callv (As := [.int s0_]) (rest := []) X J 0 ho_R_X12.1 ho_R_X12.2.1 ho_R_X12.2.2 yy_X12_gives mw_methodLink_TinyCModel_577_TinyCModel_gives_IV (d := 0) (zR_ok (by omega) (by decide)) hl.1 rfl (Nat.le_of_ble_eq_true rfl) (tX12_gives  hc) dX12_takesItem_116 (fun H locs J => ?_)
  refine lv_goto hx hb dX12_takesItem_119 rfl ?_
  exact zr_vret X J hf dX12_takesItem_189
set_option maxHeartbeats 4000000 in
theorem bX12_takesItem_155 {o : Unit × zSt} (X : zX p s m args meth c D cy shR ad ts cX12_takesItem 4 none RX12)  {x2_ : Int32}  {σ : zSt} {H : Heap} {locs : List Loc} {ls : Array Slot} (J : zJ D cy shR ad lnR s σ H locs) (hl : lv_has ls 4 [(0, .ref (ad 0)), (2, .int x2_)]) (hf : fX12_takesItem_b155 N  x2_ σ = some o) : W p l e (zRm (2)) s m args below meth c H locs 0 0 (zQv D cy shR ad ts lnR below args s o) (F0 m 155 ls []) := by
  have hx := X.1
  have hb := X.2.1
  unfold fX12_takesItem_b155 at hf
  refine lv_aload_n hx hb dX12_takesItem_155 rfl (lv_at hl 0 rfl) ?_
  refine lv_bipush (v := (8 : Int32)) hx hb dX12_takesItem_156 (by decide) ?_
  refine lv_iload_n hx hb dX12_takesItem_158 rfl (lv_at hl 1 rfl) ?_
  obtain ⟨r19, σ20, hc, hf⟩ := obd_some hf
  refine zr_callv (As := [.int (8 : Int32), .int x2_]) (rest := []) X J 0 ho_R_X12.1 ho_R_X12.2.1 ho_R_X12.2.2 yy_X12_push mw_methodLink_TinyCModel_518_TinyCModel_push_IIV (d := 0) (zR_ok (by omega) (by decide)) hl.1 rfl (Nat.le_of_ble_eq_true rfl) (tX12_push  hc) dX12_takesItem_159 (fun H locs J => ?_)
  refine lv_goto hx hb dX12_takesItem_162 rfl ?_
  exact zr_vret X J hf dX12_takesItem_189
set_option maxHeartbeats 4000000 in
theorem tX12_takesItem {a1_ : Int32} {a2_ : Int32}  {σ u : zSt} {r : Unit} (hf : fX12_takesItem N a1_ a2_ σ = some (r, u)) : zMv l yX12_takesItem cX12_takesItem 4 none (2) D cy shR ad ts lnR [.ref (ad 0), .int a1_, .int a2_] σ u := by
  refine zM_of (by decide) (Nat.le_of_ble_eq_true rfl) (fun p e s m args below meth c ls ha X J hl => ?_)
  have hx := X.1
  have hb := X.2.1
  have hl : lv_has ls 4 [(0, .ref (ad 0)), (1, .int a1_), (2, .int a2_)] := hl
  generalize s.heap = H at J ⊢
  generalize ([] : List Loc) = locs at J ⊢
  show W p l e (zRm (2)) s m args below meth c H locs 0 0 (zQv D cy shR ad ts lnR below args s (r, u)) (F0 m 0 ls [])
  unfold fX12_takesItem at hf
  refine lv_iload_n hx hb dX12_takesItem_0 rfl (lv_at hl 1 rfl) ?_
  by_cases h0_ : a1_ = (1 : Int32)
  · have hf := itp h0_ hf
    rw [h0_]
    refine lv_tableIn hx hb dX12_takesItem_1 (by decide) (by decide) (tgt := 52) (by rfl) (by decide) ?_
    refine lv_aload_n hx hb dX12_takesItem_52 rfl (lv_at hl 0 rfl) ?_
    refine lv_iload_n hx hb dX12_takesItem_53 rfl (lv_at hl 2 rfl) ?_
    refine lv_if_ge hx hb dX12_takesItem_54 rfl (fun h => ?_) (fun h => ?_)
    · have hf := itp h hf
      refine lv_aload_n hx hb dX12_takesItem_67 rfl (lv_at hl 0 rfl) ?_
      refine gf_X12_65 X J dX12_takesItem_68 ?_
      refine lv_iload_n hx hb dX12_takesItem_71 rfl (lv_at hl 2 rfl) ?_
      obtain ⟨hin, hf⟩ := itx hf
      refine al_X12_X12f43 X J hin dX12_takesItem_72 ?_
      exact bX12_takesItem_73 X   J (lv_sub hl [] rfl) hf
    · have hf := itn h hf
      refine lv_aload_n hx hb dX12_takesItem_57 rfl (lv_at hl 0 rfl) ?_
      refine lv_ldc2 (v := (1835100526 : Int64)) hx hb X.2.2.2.1 (X.2.2.2.2.1 _ mw_constantLong_TinyCModel_284) dX12_takesItem_58 ?_
      obtain ⟨r3, σ4, hc, hf⟩ := obd_some hf
      refine zr_calli (As := [.long (1835100526 : Int64)]) (rest := [.ref (ad 0)]) X J 0 ho_R_X12.1 ho_R_X12.2.1 ho_R_X12.2.2 yy_X12_named mw_methodLink_TinyCModel_286_TinyCModel_named_JI (d := 0) (zR_ok (by omega) (by decide)) hl.1 rfl (Nat.le_of_ble_eq_true rfl) (tX12_named  hc) dX12_takesItem_61 (fun H locs J => ?_)
      refine lv_goto hx hb dX12_takesItem_64 rfl ?_
      exact bX12_takesItem_73 X   J (lv_sub hl [] rfl) hf
  have hf := itn h0_ hf
  by_cases h1_ : a1_ = (2 : Int32)
  · have hf := itp h1_ hf
    rw [h1_]
    refine lv_tableIn hx hb dX12_takesItem_1 (by decide) (by decide) (tgt := 79) (by rfl) (by decide) ?_
    refine lv_aload_n hx hb dX12_takesItem_79 rfl (lv_at hl 0 rfl) ?_
    refine lv_iload_n hx hb dX12_takesItem_80 rfl (lv_at hl 2 rfl) ?_
    obtain ⟨r5, σ6, hc, hf⟩ := obd_some hf
    refine zr_callv (As := [.int a2_]) (rest := []) X J 0 ho_R_X12.1 ho_R_X12.2.1 ho_R_X12.2.2 yy_X12_begins mw_methodLink_TinyCModel_565_TinyCModel_begins_IV (d := 1) (zR_ok (by omega) (by decide)) hl.1 rfl (Nat.le_of_ble_eq_true rfl) (tX12_begins  hc) dX12_takesItem_81 (fun H locs J => ?_)
    refine lv_goto hx hb dX12_takesItem_84 rfl ?_
    exact zr_vret X J hf dX12_takesItem_189
  have hf := itn h1_ hf
  by_cases h2_ : a1_ = (3 : Int32)
  · have hf := itp h2_ hf
    rw [h2_]
    refine lv_tableIn hx hb dX12_takesItem_1 (by decide) (by decide) (tgt := 87) (by rfl) (by decide) ?_
    refine lv_aload_n hx hb dX12_takesItem_87 rfl (lv_at hl 0 rfl) ?_
    refine lv_iload_n hx hb dX12_takesItem_88 rfl (lv_at hl 2 rfl) ?_
    obtain ⟨r7, σ8, hc, hf⟩ := obd_some hf
    refine zr_callv (As := [.int a2_]) (rest := []) X J 0 ho_R_X12.1 ho_R_X12.2.1 ho_R_X12.2.2 yy_X12_ops mw_methodLink_TinyCModel_568_TinyCModel_ops_IV (d := 1) (zR_ok (by omega) (by decide)) hl.1 rfl (Nat.le_of_ble_eq_true rfl) (tX12_ops  hc) dX12_takesItem_89 (fun H locs J => ?_)
    refine lv_goto hx hb dX12_takesItem_92 rfl ?_
    exact zr_vret X J hf dX12_takesItem_189
  have hf := itn h2_ hf
  by_cases h3_ : a1_ = (4 : Int32)
  · have hf := itp h3_ hf
    rw [h3_]
    refine lv_tableIn hx hb dX12_takesItem_1 (by decide) (by decide) (tgt := 95) (by rfl) (by decide) ?_
    refine lv_aload_n hx hb dX12_takesItem_95 rfl (lv_at hl 0 rfl) ?_
    refine lv_iload_n hx hb dX12_takesItem_96 rfl (lv_at hl 2 rfl) ?_
    obtain ⟨r9, σ10, hc, hf⟩ := obd_some hf
    refine zr_callv (As := [.int a2_]) (rest := []) X J 0 ho_R_X12.1 ho_R_X12.2.1 ho_R_X12.2.2 yy_X12_logic mw_methodLink_TinyCModel_571_TinyCModel_logic_IV (d := 1) (zR_ok (by omega) (by decide)) hl.1 rfl (Nat.le_of_ble_eq_true rfl) (tX12_logic  hc) dX12_takesItem_97 (fun H locs J => ?_)
    refine lv_goto hx hb dX12_takesItem_100 rfl ?_
    exact zr_vret X J hf dX12_takesItem_189
  have hf := itn h3_ hf
  by_cases h4_ : a1_ = (5 : Int32)
  · have hf := itp h4_ hf
    rw [h4_]
    refine lv_tableIn hx hb dX12_takesItem_1 (by decide) (by decide) (tgt := 103) (by rfl) (by decide) ?_
    refine lv_aload_n hx hb dX12_takesItem_103 rfl (lv_at hl 0 rfl) ?_
    refine lv_aload_n hx hb dX12_takesItem_104 rfl (lv_at hl 0 rfl) ?_
    obtain ⟨r11, σ12, hc, hf⟩ := obd_some hf
    refine zr_calli (As := []) (rest := [.ref (ad 0)]) X J 0 ho_R_X12.1 ho_R_X12.2.1 ho_R_X12.2.2 yy_X12_goes mw_methodLink_TinyCModel_574_TinyCModel_goes_I (d := 0) (zR_ok (by omega) (by decide)) hl.1 rfl (Nat.le_of_ble_eq_true rfl) (tX12_goes  hc) dX12_takesItem_105 (fun H locs J => ?_)
    refine lv_if_eq hx hb dX12_takesItem_108 rfl (fun h => ?_) (fun h => ?_)
    · have hf := itp h hf
      refine lv_iconst (v := (0 : Int32)) hx hb dX12_takesItem_115 (by decide) ?_
      exact bX12_takesItem_116 X   J (lv_sub hl [] rfl) hf
    · have hf := itn h hf
      refine lv_iconst (v := (1 : Int32)) hx hb dX12_takesItem_111 (by decide) ?_
      refine lv_goto hx hb dX12_takesItem_112 rfl ?_
      exact bX12_takesItem_116 X   J (lv_sub hl [] rfl) hf
  have hf := itn h4_ hf
  by_cases h5_ : a1_ = (6 : Int32)
  · have hf := itp h5_ hf
    rw [h5_]
    refine lv_tableIn hx hb dX12_takesItem_1 (by decide) (by decide) (tgt := 122) (by rfl) (by decide) ?_
    refine lv_aload_n hx hb dX12_takesItem_122 rfl (lv_at hl 0 rfl) ?_
    refine lv_iconst (v := (0 : Int32)) hx hb dX12_takesItem_123 (by decide) ?_
    obtain ⟨r15, σ16, hc, hf⟩ := obd_some hf
    refine zr_callv (As := [.int (0 : Int32)]) (rest := []) X J 0 ho_R_X12.1 ho_R_X12.2.1 ho_R_X12.2.2 yy_X12_gives mw_methodLink_TinyCModel_577_TinyCModel_gives_IV (d := 0) (zR_ok (by omega) (by decide)) hl.1 rfl (Nat.le_of_ble_eq_true rfl) (tX12_gives  hc) dX12_takesItem_124 (fun H locs J => ?_)
    refine lv_aload_n hx hb dX12_takesItem_127 rfl (lv_at hl 0 rfl) ?_
    obtain ⟨r17, σ18, hc, hf⟩ := obd_some hf
    refine zr_callv (As := []) (rest := []) X J 0 ho_R_X12.1 ho_R_X12.2.1 ho_R_X12.2.2 yy_X12_leaves mw_methodLink_TinyCModel_580_TinyCModel_leaves_V (d := 0) (zR_ok (by omega) (by decide)) hl.1 rfl (Nat.le_of_ble_eq_true rfl) (tX12_leaves  hc) dX12_takesItem_128 (fun H locs J => ?_)
    refine lv_goto hx hb dX12_takesItem_131 rfl ?_
    exact zr_vret X J hf dX12_takesItem_189
  have hf := itn h5_ hf
  by_cases h6_ : a1_ = (7 : Int32)
  · have hf := itp h6_ hf
    rw [h6_]
    refine lv_tableIn hx hb dX12_takesItem_1 (by decide) (by decide) (tgt := 134) (by rfl) (by decide) ?_
    refine lv_aload_n hx hb dX12_takesItem_134 rfl (lv_at hl 0 rfl) ?_
    refine gf_X12_71 X J dX12_takesItem_135 ?_
    refine lv_iload_n hx hb dX12_takesItem_138 rfl (lv_at hl 2 rfl) ?_
    obtain ⟨hin, hf⟩ := itx hf
    refine al_X12_X12f45 X J hin dX12_takesItem_139 ?_
    refine lv_if_lt hx hb dX12_takesItem_140 rfl (fun h => ?_) (fun h => ?_)
    · have hf := itp h hf
      exact bX12_takesItem_155 X   J (lv_sub hl [0, 2] rfl) hf
    · have hf := itn h hf
      refine lv_aload_n hx hb dX12_takesItem_143 rfl (lv_at hl 0 rfl) ?_
      refine lv_bipush (v := (7 : Int32)) hx hb dX12_takesItem_144 (by decide) ?_
      refine lv_aload_n hx hb dX12_takesItem_146 rfl (lv_at hl 0 rfl) ?_
      refine gf_X12_71 X J dX12_takesItem_147 ?_
      refine lv_iload_n hx hb dX12_takesItem_150 rfl (lv_at hl 2 rfl) ?_
      obtain ⟨hin, hf⟩ := itx hf
      refine al_X12_X12f45 X J hin dX12_takesItem_151 ?_
      obtain ⟨r21, σ22, hc, hf⟩ := obd_some hf
      refine zr_callv (As := [.int (7 : Int32), .int (zA σ 21 a2_.toNatClampNeg)]) (rest := []) X J 0 ho_R_X12.1 ho_R_X12.2.1 ho_R_X12.2.2 yy_X12_push mw_methodLink_TinyCModel_518_TinyCModel_push_IIV (d := 0) (zR_ok (by omega) (by decide)) hl.1 rfl (Nat.le_of_ble_eq_true rfl) (tX12_push  hc) dX12_takesItem_152 (fun H locs J => ?_)
      exact bX12_takesItem_155 X   J (lv_sub hl [0, 2] rfl) hf
  have hf := itn h6_ hf
  by_cases h7_ : a1_ = (8 : Int32)
  · have hf := itp h7_ hf
    rw [h7_]
    refine lv_tableIn hx hb dX12_takesItem_1 (by decide) (by decide) (tgt := 165) (by rfl) (by decide) ?_
    refine lv_aload_n hx hb dX12_takesItem_165 rfl (lv_at hl 0 rfl) ?_
    refine lv_iload_n hx hb dX12_takesItem_166 rfl (lv_at hl 2 rfl) ?_
    obtain ⟨r23, σ24, hc, hf⟩ := obd_some hf
    refine zr_callv (As := [.int a2_]) (rest := []) X J 0 ho_R_X12.1 ho_R_X12.2.1 ho_R_X12.2.2 yy_X12_states mw_methodLink_TinyCModel_583_TinyCModel_states_IV (d := 1) (zR_ok (by omega) (by decide)) hl.1 rfl (Nat.le_of_ble_eq_true rfl) (tX12_states  hc) dX12_takesItem_167 (fun H locs J => ?_)
    refine lv_goto hx hb dX12_takesItem_170 rfl ?_
    exact zr_vret X J hf dX12_takesItem_189
  have hf := itn h7_ hf
  by_cases h8_ : a1_ = (9 : Int32)
  · have hf := itp h8_ hf
    rw [h8_]
    refine lv_tableIn hx hb dX12_takesItem_1 (by decide) (by decide) (tgt := 173) (by rfl) (by decide) ?_
    refine lv_aload_n hx hb dX12_takesItem_173 rfl (lv_at hl 0 rfl) ?_
    refine lv_iload_n hx hb dX12_takesItem_174 rfl (lv_at hl 2 rfl) ?_
    obtain ⟨r25, σ26, hc, hf⟩ := obd_some hf
    refine zr_callv (As := [.int a2_]) (rest := []) X J 0 ho_R_X12.1 ho_R_X12.2.1 ho_R_X12.2.2 yy_X12_does mw_methodLink_TinyCModel_586_TinyCModel_does_IV (d := 1) (zR_ok (by omega) (by decide)) hl.1 rfl (Nat.le_of_ble_eq_true rfl) (tX12_does  hc) dX12_takesItem_175 (fun H locs J => ?_)
    refine lv_goto hx hb dX12_takesItem_178 rfl ?_
    exact zr_vret X J hf dX12_takesItem_189
  have hf := itn h8_ hf
  refine lv_tableOut hx hb dX12_takesItem_1 (tgt := 181) (by have := lv_neT h0_ (a := 1) (by decide); have := lv_neT h1_ (a := 2) (by decide); have := lv_neT h2_ (a := 3) (by decide); have := lv_neT h3_ (a := 4) (by decide); have := lv_neT h4_ (a := 5) (by decide); have := lv_neT h5_ (a := 6) (by decide); have := lv_neT h6_ (a := 7) (by decide); have := lv_neT h7_ (a := 8) (by decide); have := lv_neT h8_ (a := 9) (by decide); omega) (by decide) ?_
  refine lv_aload_n hx hb dX12_takesItem_181 rfl (lv_at hl 0 rfl) ?_
  obtain ⟨r27, σ28, hc, hf⟩ := obd_some hf
  refine zr_calli (As := []) (rest := []) X J 0 ho_R_X12.1 ho_R_X12.2.1 ho_R_X12.2.2 yy_X12_goes mw_methodLink_TinyCModel_574_TinyCModel_goes_I (d := 0) (zR_ok (by omega) (by decide)) hl.1 rfl (Nat.le_of_ble_eq_true rfl) (tX12_goes  hc) dX12_takesItem_182 (fun H locs J => ?_)
  refine lv_istore_n hx hb dX12_takesItem_185 rfl hl (by decide) rfl (fun ls hl => ?_)
  have hl : lv_has ls 4 [(3, .int r27), (0, .ref (ad 0)), (1, .int a1_), (2, .int a2_)] := hl
  refine lv_goto hx hb dX12_takesItem_186 rfl ?_
  exact zr_vret X J hf dX12_takesItem_189
set_option maxHeartbeats 4000000 in
theorem bX12_goesOn_133 {o : Unit × zSt} (X : zX p s m args meth c D cy shR ad ts cX12_goesOn 3 none RX12)  {s0_ : Int32}  {σ : zSt} {H : Heap} {locs : List Loc} {ls : Array Slot} (J : zJ D cy shR ad lnR s σ H locs) (hl : lv_has ls 3 []) (hf : fX12_goesOn_b133 N  s0_ σ = some o) : W p l e (zRm (3)) s m args below meth c H locs 0 0 (zQv D cy shR ad ts lnR below args s o) (F0 m 133 ls [.int s0_, .ref (ad 0)]) := by
  have hx := X.1
  have hb := X.2.1
  unfold fX12_goesOn_b133 at hf
  refine pf_X12_494 X J dX12_goesOn_133 (fun σ8 H locs eq J => ?_)
  have hf := bnd_eq eq hf
  clear eq
  exact zr_vret X J hf dX12_goesOn_136
set_option maxHeartbeats 4000000 in
theorem tX12_goesOn   {σ u : zSt} {r : Unit} (hf : fX12_goesOn N  σ = some (r, u)) : zMv l yX12_goesOn cX12_goesOn 3 none (3) D cy shR ad ts lnR [.ref (ad 0)] σ u := by
  refine zM_of (by decide) (Nat.le_of_ble_eq_true rfl) (fun p e s m args below meth c ls ha X J hl => ?_)
  have hx := X.1
  have hb := X.2.1
  have hl : lv_has ls 3 [(0, .ref (ad 0))] := hl
  generalize s.heap = H at J ⊢
  generalize ([] : List Loc) = locs at J ⊢
  show W p l e (zRm (3)) s m args below meth c H locs 0 0 (zQv D cy shR ad ts lnR below args s (r, u)) (F0 m 0 ls [])
  unfold fX12_goesOn at hf
  refine lv_aload_n hx hb dX12_goesOn_0 rfl (lv_at hl 0 rfl) ?_
  refine gf_X12_278 X J dX12_goesOn_1 ?_
  refine lv_aload_n hx hb dX12_goesOn_4 rfl (lv_at hl 0 rfl) ?_
  refine gf_X12_170 X J dX12_goesOn_5 ?_
  refine lv_icmp_le hx hb dX12_goesOn_8 rfl (fun h => ?_) (fun h => ?_)
  · have hf := itp h hf
    refine lv_aload_n hx hb dX12_goesOn_17 rfl (lv_at hl 0 rfl) ?_
    refine lv_dup hx hb dX12_goesOn_18 rfl ?_
    refine gf_X12_509 X J dX12_goesOn_19 ?_
    refine lv_iconst (v := (1 : Int32)) hx hb dX12_goesOn_22 (by decide) ?_
    refine lv_isub hx hb dX12_goesOn_23 ?_
    refine pf_X12_509 X J dX12_goesOn_24 (fun σ1 H locs eq J => ?_)
    have hf := bnd_eq eq hf
    clear eq
    refine lv_aload_n hx hb dX12_goesOn_27 rfl (lv_at hl 0 rfl) ?_
    refine gf_X12_141 X J dX12_goesOn_28 ?_
    refine lv_aload_n hx hb dX12_goesOn_31 rfl (lv_at hl 0 rfl) ?_
    refine gf_X12_509 X J dX12_goesOn_32 ?_
    obtain ⟨hin, hf⟩ := itx hf
    refine al_X12_X12f80 X J hin dX12_goesOn_35 ?_
    refine lv_topi (fun x2 eq => ?_)
    have hf := bnd_eq eq hf
    clear eq
    refine lv_istore_n hx hb dX12_goesOn_36 rfl hl (by decide) rfl (fun ls hl => ?_)
    have hl : lv_has ls 3 [(1, .int x2), (0, .ref (ad 0))] := hl
    refine lv_aload_n hx hb dX12_goesOn_37 rfl (lv_at hl 1 rfl) ?_
    refine gf_X12_144 X J dX12_goesOn_38 ?_
    refine lv_aload_n hx hb dX12_goesOn_41 rfl (lv_at hl 1 rfl) ?_
    refine gf_X12_509 X J dX12_goesOn_42 ?_
    obtain ⟨hin, hf⟩ := itx hf
    refine al_X12_X12f81 X J hin dX12_goesOn_45 ?_
    refine lv_topi (fun x3 eq => ?_)
    have hf := bnd_eq eq hf
    clear eq
    refine lv_istore_n hx hb dX12_goesOn_46 rfl hl (by decide) rfl (fun ls hl => ?_)
    have hl : lv_has ls 3 [(2, .int x3), (1, .int x2), (0, .ref (ad 0))] := hl
    refine lv_aload_n hx hb dX12_goesOn_47 rfl (lv_at hl 2 rfl) ?_
    refine lv_iload_n hx hb dX12_goesOn_48 rfl (lv_at hl 1 rfl) ?_
    refine lv_iload_n hx hb dX12_goesOn_49 rfl (lv_at hl 0 rfl) ?_
    obtain ⟨r4, σ5, hc, hf⟩ := obd_some hf
    refine zr_callv (As := [.int x2, .int x3]) (rest := []) X J 0 ho_R_X12.1 ho_R_X12.2.1 ho_R_X12.2.2 yy_X12_takesItem mw_methodLink_TinyCModel_559_TinyCModel_takesItem_IIV (d := 2) (zR_ok (by omega) (by decide)) hl.1 rfl (Nat.le_of_ble_eq_true rfl) (tX12_takesItem  hc) dX12_goesOn_50 (fun H locs J => ?_)
    refine lv_aload_n hx hb dX12_goesOn_53 rfl (lv_at hl 2 rfl) ?_
    refine gf_X12_494 X J dX12_goesOn_54 ?_
    refine lv_if_eq hx hb dX12_goesOn_57 rfl (fun h => ?_) (fun h => ?_)
    · have hf := itp h hf
      refine lv_aload_n hx hb dX12_goesOn_61 rfl (lv_at hl 2 rfl) ?_
      refine gf_X12_506 X J dX12_goesOn_62 ?_
      refine lv_aload_n hx hb dX12_goesOn_65 rfl (lv_at hl 2 rfl) ?_
      refine gf_X12_509 X J dX12_goesOn_66 ?_
      refine lv_iadd hx hb dX12_goesOn_69 ?_
      refine lv_aload_n hx hb dX12_goesOn_70 rfl (lv_at hl 2 rfl) ?_
      refine gf_X12_278 X J dX12_goesOn_71 ?_
      refine lv_iadd hx hb dX12_goesOn_74 ?_
      refine lv_aload_n hx hb dX12_goesOn_75 rfl (lv_at hl 2 rfl) ?_
      refine gf_X12_515 X J dX12_goesOn_76 ?_
      refine lv_iadd hx hb dX12_goesOn_79 ?_
      refine lv_aload_n hx hb dX12_goesOn_80 rfl (lv_at hl 2 rfl) ?_
      refine gf_X12_170 X J dX12_goesOn_81 ?_
      refine lv_icmp_le hx hb dX12_goesOn_84 rfl (fun h => ?_) (fun h => ?_)
      · have hf := itp h hf
        refine lv_aload_n hx hb dX12_goesOn_95 rfl (lv_at hl 2 rfl) ?_
        refine gf_X12_509 X J dX12_goesOn_96 ?_
        refine lv_if_ne hx hb dX12_goesOn_99 rfl (fun h => ?_) (fun h => ?_)
        · have hf := itn h hf
          exact zr_vret X J hf dX12_goesOn_136
        · have hf := itp h hf
          refine lv_aload_n hx hb dX12_goesOn_102 rfl (lv_at hl 2 rfl) ?_
          refine lv_aload_n hx hb dX12_goesOn_103 rfl (lv_at hl 2 rfl) ?_
          refine gf_X12_138 X J dX12_goesOn_104 ?_
          refine lv_aload_n hx hb dX12_goesOn_107 rfl (lv_at hl 2 rfl) ?_
          refine gf_X12_506 X J dX12_goesOn_108 ?_
          refine lv_iconst (v := (1 : Int32)) hx hb dX12_goesOn_111 (by decide) ?_
          refine lv_isub hx hb dX12_goesOn_112 ?_
          obtain ⟨hin, hf⟩ := itx hf
          refine al_X12_X12f78 X J hin dX12_goesOn_113 ?_
          obtain ⟨r6, σ7, hc, hf⟩ := obd_some hf
          refine zr_callv (As := [.int (zA σ5 43 ((zI σ5 0 79) - (1 : Int32)).toNatClampNeg)]) (rest := []) X J 0 ho_R_X12.1 ho_R_X12.2.1 ho_R_X12.2.2 yy_X12_comesOut mw_methodLink_TinyCModel_547_TinyCModel_comesOut_IV (d := 0) (zR_ok (by omega) (by decide)) hl.1 rfl (Nat.le_of_ble_eq_true rfl) (tX12_comesOut  hc) dX12_goesOn_114 (fun H locs J => ?_)
          refine lv_aload_n hx hb dX12_goesOn_117 rfl (lv_at hl 2 rfl) ?_
          refine lv_aload_n hx hb dX12_goesOn_118 rfl (lv_at hl 2 rfl) ?_
          refine gf_X12_494 X J dX12_goesOn_119 ?_
          refine lv_if_ne hx hb dX12_goesOn_122 rfl (fun h => ?_) (fun h => ?_)
          · have hf := itn h hf
            refine lv_aload_n hx hb dX12_goesOn_129 rfl (lv_at hl 2 rfl) ?_
            refine gf_X12_494 X J dX12_goesOn_130 ?_
            exact bX12_goesOn_133 X   J (lv_sub hl [] rfl) hf
          · have hf := itp h hf
            refine lv_iconst (v := (1 : Int32)) hx hb dX12_goesOn_125 (by decide) ?_
            refine lv_goto hx hb dX12_goesOn_126 rfl ?_
            exact bX12_goesOn_133 X   J (lv_sub hl [] rfl) hf
      · have hf := itn h hf
        refine lv_aload_n hx hb dX12_goesOn_87 rfl (lv_at hl 2 rfl) ?_
        refine lv_iconst (v := (4 : Int32)) hx hb dX12_goesOn_88 (by decide) ?_
        refine pf_X12_494 X J dX12_goesOn_89 (fun σ9 H locs eq J => ?_)
        have hf := bnd_eq eq hf
        clear eq
        refine lv_goto hx hb dX12_goesOn_92 rfl ?_
        exact zr_vret X J hf dX12_goesOn_136
    · have hf := itn h hf
      exact zr_vret X J hf dX12_goesOn_60
  · have hf := itn h hf
    refine lv_aload_n hx hb dX12_goesOn_11 rfl (lv_at hl 0 rfl) ?_
    refine lv_iconst (v := (4 : Int32)) hx hb dX12_goesOn_12 (by decide) ?_
    refine pf_X12_494 X J dX12_goesOn_13 (fun σ10 H locs eq J => ?_)
    have hf := bnd_eq eq hf
    clear eq
    exact zr_vret X J hf dX12_goesOn_16
set_option maxHeartbeats 4000000 in
theorem bX12_interpret_22 {o : Int32 × zSt} (X : zX p s m args meth c D cy shR ad ts cX12_interpret 3 (some .int) RX12)  : ∀ (n : Nat) (x1_ : Int32) (x2_ : Int32) (σ : zSt) (H : Heap) (locs : List Loc) (ls : Array Slot), zJ D cy shR ad lnR s σ H locs → lv_has ls 3 [(0, .ref (ad 0)), (1, .int x1_), (2, .int x2_)] → fX12_interpret_b22 N  n x1_ x2_ σ = some o → W p l e (zRm (4)) s m args below meth c H locs 0 0 (zQi D cy shR ad ts lnR below args s o) (F0 m 22 ls []) := by
  have hx := X.1
  have hb := X.2.1
  intro n
  induction n with
  | zero =>
    intro x1_ x2_ σ H locs ls J hl hf
    rw [fX12_interpret_b22] at hf
    cases hf
  | succ n ih =>
    intro x1_ x2_ σ H locs ls J hl hf
    rw [fX12_interpret_b22] at hf
    refine lv_iload_n hx hb dX12_interpret_22 rfl (lv_at hl 2 rfl) ?_
    refine lv_iload_n hx hb dX12_interpret_23 rfl (lv_at hl 1 rfl) ?_
    refine lv_icmp_ge hx hb dX12_interpret_24 rfl (fun h => ?_) (fun h => ?_)
    · have hf := itp h hf
      refine lv_aload_n hx hb dX12_interpret_49 rfl (lv_at hl 0 rfl) ?_
      refine gf_X12_494 X J dX12_interpret_50 ?_
      exact zr_iret X J hf dX12_interpret_53
    · have hf := itn h hf
      refine lv_aload_n hx hb dX12_interpret_27 rfl (lv_at hl 0 rfl) ?_
      refine gf_X12_494 X J dX12_interpret_28 ?_
      refine lv_if_ne hx hb dX12_interpret_31 rfl (fun h => ?_) (fun h => ?_)
      · have hf := itn h hf
        refine lv_aload_n hx hb dX12_interpret_49 rfl (lv_at hl 0 rfl) ?_
        refine gf_X12_494 X J dX12_interpret_50 ?_
        exact zr_iret X J hf dX12_interpret_53
      · have hf := itp h hf
        refine lv_aload_n hx hb dX12_interpret_34 rfl (lv_at hl 0 rfl) ?_
        refine lv_iconst (v := (2 : Int32)) hx hb dX12_interpret_35 (by decide) ?_
        refine pf_X12_497 X J dX12_interpret_36 (fun σ2 H locs eq J => ?_)
        have hf := bnd_eq eq hf
        clear eq
        refine lv_aload_n hx hb dX12_interpret_39 rfl (lv_at hl 0 rfl) ?_
        obtain ⟨r3, σ4, hc, hf⟩ := obd_some hf
        refine zr_callv (As := []) (rest := []) X J 0 ho_R_X12.1 ho_R_X12.2.1 ho_R_X12.2.2 yy_X12_goesOn mw_methodLink_TinyCModel_556_TinyCModel_goesOn_V (d := 3) (zR_ok (by omega) (by decide)) hl.1 rfl (Nat.le_of_ble_eq_true rfl) (tX12_goesOn  hc) dX12_interpret_40 (fun H locs J => ?_)
        obtain ⟨x5, eq⟩ : ∃ z, z = x2_ + (1 : Int32) := ⟨_, rfl⟩
        have hf := bnd_eq eq hf
        refine lv_iinc hx hb dX12_interpret_43 hl (k := 2) rfl (v := x5) (by rw [eq]; rfl) (by decide) rfl (fun ls hl => ?_)
        clear eq
        have hl : lv_has ls 3 [(2, .int x5), (0, .ref (ad 0)), (1, .int x1_)] := hl
        refine lv_goto hx hb dX12_interpret_46 rfl ?_
        exact ih _ _ _ _ _ _ J (lv_sub hl [1, 2, 0] rfl) hf
set_option maxHeartbeats 4000000 in
theorem tX12_interpret {a1_ : Int32}  {σ u : zSt} {r : Int32} (hf : fX12_interpret N a1_ σ = some (r, u)) : zMi l yX12_interpret cX12_interpret 3 (some .int) (4) D cy shR ad ts lnR [.ref (ad 0), .int a1_] σ r u := by
  refine zM_of (by decide) (Nat.le_of_ble_eq_true rfl) (fun p e s m args below meth c ls ha X J hl => ?_)
  have hx := X.1
  have hb := X.2.1
  have hl : lv_has ls 3 [(0, .ref (ad 0)), (1, .int a1_)] := hl
  generalize s.heap = H at J ⊢
  generalize ([] : List Loc) = locs at J ⊢
  show W p l e (zRm (4)) s m args below meth c H locs 0 0 (zQi D cy shR ad ts lnR below args s (r, u)) (F0 m 0 ls [])
  unfold fX12_interpret at hf
  refine lv_aload_n hx hb dX12_interpret_0 rfl (lv_at hl 0 rfl) ?_
  refine gf_X12_475 X J dX12_interpret_1 ?_
  refine lv_if_ne hx hb dX12_interpret_4 rfl (fun h => ?_) (fun h => ?_)
  · have hf := itn h hf
    refine lv_aload_n hx hb dX12_interpret_9 rfl (lv_at hl 0 rfl) ?_
    refine gf_X12_497 X J dX12_interpret_10 ?_
    refine lv_iconst (v := (1 : Int32)) hx hb dX12_interpret_13 (by decide) ?_
    refine lv_icmp_ne hx hb dX12_interpret_14 rfl (fun h => ?_) (fun h => ?_)
    · have hf := itn h hf
      refine lv_iconst (v := (0 : Int32)) hx hb dX12_interpret_20 (by decide) ?_
      refine lv_topi (fun x1 eq => ?_)
      have hf := bnd_eq eq hf
      clear eq
      refine lv_istore_n hx hb dX12_interpret_21 rfl hl (by decide) rfl (fun ls hl => ?_)
      have hl : lv_has ls 3 [(2, .int x1), (0, .ref (ad 0)), (1, .int a1_)] := hl
      exact bX12_interpret_22 X  N _ _ _ _ _ _ J (lv_sub hl [1, 2, 0] rfl) hf
    · have hf := itp h hf
      refine lv_bipush (v := (-2 : Int32)) hx hb dX12_interpret_17 (by decide) ?_
      exact zr_iret X J hf dX12_interpret_19
  · have hf := itp h hf
    refine lv_iconst (v := (-1 : Int32)) hx hb dX12_interpret_7 (by decide) ?_
    exact zr_iret X J hf dX12_interpret_8
set_option maxHeartbeats 4000000 in
theorem tX12_outSize   {σ u : zSt} {r : Int32} (hf : fX12_outSize N  σ = some (r, u)) : zMi l yX12_outSize cX12_outSize 1 (some .int) (0) D cy shR ad ts lnR [.ref (ad 0)] σ r u := by
  refine zM_of (by decide) (Nat.le_of_ble_eq_true rfl) (fun p e s m args below meth c ls ha X J hl => ?_)
  have hx := X.1
  have hb := X.2.1
  have hl : lv_has ls 1 [(0, .ref (ad 0))] := hl
  generalize s.heap = H at J ⊢
  generalize ([] : List Loc) = locs at J ⊢
  show W p l e (zRm (0)) s m args below meth c H locs 0 0 (zQi D cy shR ad ts lnR below args s (r, u)) (F0 m 0 ls [])
  unfold fX12_outSize at hf
  refine lv_aload_n hx hb dX12_outSize_0 rfl (lv_at hl 0 rfl) ?_
  refine gf_X12_500 X J dX12_outSize_1 ?_
  exact zr_iret X J hf dX12_outSize_4
set_option maxHeartbeats 4000000 in
theorem bX12_out_12 {o : Int32 × zSt} (X : zX p s m args meth c D cy shR ad ts cX12_out 2 (some .int) RX12)    {σ : zSt} {H : Heap} {locs : List Loc} {ls : Array Slot} (J : zJ D cy shR ad lnR s σ H locs) (hl : lv_has ls 2 []) (hf : fX12_out_b12 N   σ = some o) : W p l e (zRm (0)) s m args below meth c H locs 0 0 (zQi D cy shR ad ts lnR below args s o) (F0 m 12 ls []) := by
  have hx := X.1
  have hb := X.2.1
  unfold fX12_out_b12 at hf
  refine lv_iconst (v := (-1 : Int32)) hx hb dX12_out_12 (by decide) ?_
  refine lv_goto hx hb dX12_out_13 rfl ?_
  exact zr_iret X J hf dX12_out_22
set_option maxHeartbeats 4000000 in
theorem tX12_out {a1_ : Int32}  {σ u : zSt} {r : Int32} (hf : fX12_out N a1_ σ = some (r, u)) : zMi l yX12_out cX12_out 2 (some .int) (0) D cy shR ad ts lnR [.ref (ad 0), .int a1_] σ r u := by
  refine zM_of (by decide) (Nat.le_of_ble_eq_true rfl) (fun p e s m args below meth c ls ha X J hl => ?_)
  have hx := X.1
  have hb := X.2.1
  have hl : lv_has ls 2 [(0, .ref (ad 0)), (1, .int a1_)] := hl
  generalize s.heap = H at J ⊢
  generalize ([] : List Loc) = locs at J ⊢
  show W p l e (zRm (0)) s m args below meth c H locs 0 0 (zQi D cy shR ad ts lnR below args s (r, u)) (F0 m 0 ls [])
  unfold fX12_out at hf
  refine lv_iload_n hx hb dX12_out_0 rfl (lv_at hl 1 rfl) ?_
  refine lv_if_lt hx hb dX12_out_1 rfl (fun h => ?_) (fun h => ?_)
  · have hf := itp h hf
    exact bX12_out_12 X   J (lv_sub hl [] rfl) hf
  · have hf := itn h hf
    refine lv_iload_n hx hb dX12_out_4 rfl (lv_at hl 1 rfl) ?_
    refine lv_aload_n hx hb dX12_out_5 rfl (lv_at hl 0 rfl) ?_
    refine gf_X12_500 X J dX12_out_6 ?_
    refine lv_icmp_lt hx hb dX12_out_9 rfl (fun h => ?_) (fun h => ?_)
    · have hf := itp h hf
      refine lv_aload_n hx hb dX12_out_16 rfl (lv_at hl 0 rfl) ?_
      refine gf_X12_22 X J dX12_out_17 ?_
      refine lv_iload_n hx hb dX12_out_20 rfl (lv_at hl 1 rfl) ?_
      obtain ⟨hin, hf⟩ := itx hf
      refine al_X12_X12f13 X J hin dX12_out_21 ?_
      exact zr_iret X J hf dX12_out_22
    · have hf := itn h hf
      exact bX12_out_12 X   J (lv_sub hl [] rfl) hf
set_option maxHeartbeats 4000000 in
theorem tX12_codeSize   {σ u : zSt} {r : Int32} (hf : fX12_codeSize N  σ = some (r, u)) : zMi l yX12_codeSize cX12_codeSize 1 (some .int) (0) D cy shR ad ts lnR [.ref (ad 0)] σ r u := by
  refine zM_of (by decide) (Nat.le_of_ble_eq_true rfl) (fun p e s m args below meth c ls ha X J hl => ?_)
  have hx := X.1
  have hb := X.2.1
  have hl : lv_has ls 1 [(0, .ref (ad 0))] := hl
  generalize s.heap = H at J ⊢
  generalize ([] : List Loc) = locs at J ⊢
  show W p l e (zRm (0)) s m args below meth c H locs 0 0 (zQi D cy shR ad ts lnR below args s (r, u)) (F0 m 0 ls [])
  unfold fX12_codeSize at hf
  refine lv_aload_n hx hb dX12_codeSize_0 rfl (lv_at hl 0 rfl) ?_
  refine gf_X12_472 X J dX12_codeSize_1 ?_
  exact zr_iret X J hf dX12_codeSize_4
set_option maxHeartbeats 4000000 in
theorem bX12_codeAt_12 {o : Int32 × zSt} (X : zX p s m args meth c D cy shR ad ts cX12_codeAt 2 (some .int) RX12)    {σ : zSt} {H : Heap} {locs : List Loc} {ls : Array Slot} (J : zJ D cy shR ad lnR s σ H locs) (hl : lv_has ls 2 []) (hf : fX12_codeAt_b12 N   σ = some o) : W p l e (zRm (0)) s m args below meth c H locs 0 0 (zQi D cy shR ad ts lnR below args s o) (F0 m 12 ls []) := by
  have hx := X.1
  have hb := X.2.1
  unfold fX12_codeAt_b12 at hf
  refine lv_iconst (v := (-1 : Int32)) hx hb dX12_codeAt_12 (by decide) ?_
  refine lv_goto hx hb dX12_codeAt_13 rfl ?_
  exact zr_iret X J hf dX12_codeAt_22
set_option maxHeartbeats 4000000 in
theorem tX12_codeAt {a1_ : Int32}  {σ u : zSt} {r : Int32} (hf : fX12_codeAt N a1_ σ = some (r, u)) : zMi l yX12_codeAt cX12_codeAt 2 (some .int) (0) D cy shR ad ts lnR [.ref (ad 0), .int a1_] σ r u := by
  refine zM_of (by decide) (Nat.le_of_ble_eq_true rfl) (fun p e s m args below meth c ls ha X J hl => ?_)
  have hx := X.1
  have hb := X.2.1
  have hl : lv_has ls 2 [(0, .ref (ad 0)), (1, .int a1_)] := hl
  generalize s.heap = H at J ⊢
  generalize ([] : List Loc) = locs at J ⊢
  show W p l e (zRm (0)) s m args below meth c H locs 0 0 (zQi D cy shR ad ts lnR below args s (r, u)) (F0 m 0 ls [])
  unfold fX12_codeAt at hf
  refine lv_iload_n hx hb dX12_codeAt_0 rfl (lv_at hl 1 rfl) ?_
  refine lv_if_lt hx hb dX12_codeAt_1 rfl (fun h => ?_) (fun h => ?_)
  · have hf := itp h hf
    exact bX12_codeAt_12 X   J (lv_sub hl [] rfl) hf
  · have hf := itn h hf
    refine lv_iload_n hx hb dX12_codeAt_4 rfl (lv_at hl 1 rfl) ?_
    refine lv_aload_n hx hb dX12_codeAt_5 rfl (lv_at hl 0 rfl) ?_
    refine gf_X12_472 X J dX12_codeAt_6 ?_
    refine lv_icmp_lt hx hb dX12_codeAt_9 rfl (fun h => ?_) (fun h => ?_)
    · have hf := itp h hf
      refine lv_aload_n hx hb dX12_codeAt_16 rfl (lv_at hl 0 rfl) ?_
      refine gf_X12_13 X J dX12_codeAt_17 ?_
      refine lv_iload_n hx hb dX12_codeAt_20 rfl (lv_at hl 1 rfl) ?_
      obtain ⟨hin, hf⟩ := itx hf
      refine al_X12_X12f4 X J hin dX12_codeAt_21 ?_
      exact zr_iret X J hf dX12_codeAt_22
    · have hf := itn h hf
      exact bX12_codeAt_12 X   J (lv_sub hl [] rfl) hf
end
