section
variable {p : Program} {l : Launch} {e : Env} {s : State} {m : MethodId} {args : Array Value} {below : List Frame} {meth : Method} {c : Code} {D : va_G} {cy : Nat → ClassId} {ad ts : Nat → Nat} {N : Nat}
set_option maxHeartbeats 4000000 in
theorem bX12_put_20 {o : Unit × zSt} (X : zX p s m args meth c D cy shR ad ts cX12_put 2 none RX12)    {σ : zSt} {H : Heap} {locs : List Loc} {ls : Array Slot} (J : zJ D cy shR ad lnR s σ H locs) (hl : lv_has ls 2 [(0, .ref (ad 0))]) (hf : fX12_put_b20 N   σ = some o) : W p l e (zRm (0)) s m args below meth c H locs 0 0 (zQv D cy shR ad ts lnR below args s o) (F0 m 20 ls []) := by
  have hx := X.1
  have hb := X.2.1
  unfold fX12_put_b20 at hf
  refine lv_aload_n hx hb dX12_put_20 rfl (lv_at hl 0 rfl) ?_
  refine lv_dup hx hb dX12_put_21 rfl ?_
  refine gf_X12_421 X J dX12_put_22 ?_
  refine lv_iconst (v := (1 : Int32)) hx hb dX12_put_25 (by decide) ?_
  refine lv_iadd hx hb dX12_put_26 ?_
  refine pf_X12_421 X J dX12_put_27 (fun σ1 H locs eq J => ?_)
  have hf := bnd_eq eq hf
  clear eq
  exact zr_vret X J hf dX12_put_30
set_option maxHeartbeats 4000000 in
theorem tX12_put {a1_ : Int32}  {σ u : zSt} {r : Unit} (hf : fX12_put N a1_ σ = some (r, u)) : zMv l yX12_put cX12_put 2 none (0) D cy shR ad ts lnR [.ref (ad 0), .int a1_] σ u := by
  refine zM_of (by decide) (Nat.le_of_ble_eq_true rfl) (fun p e s m args below meth c ls ha X J hl => ?_)
  have hx := X.1
  have hb := X.2.1
  have hl : lv_has ls 2 [(0, .ref (ad 0)), (1, .int a1_)] := hl
  generalize s.heap = H at J ⊢
  generalize ([] : List Loc) = locs at J ⊢
  show W p l e (zRm (0)) s m args below meth c H locs 0 0 (zQv D cy shR ad ts lnR below args s (r, u)) (F0 m 0 ls [])
  unfold fX12_put at hf
  refine lv_aload_n hx hb dX12_put_0 rfl (lv_at hl 0 rfl) ?_
  refine gf_X12_421 X J dX12_put_1 ?_
  refine lv_sipush (v := (30000 : Int32)) hx hb dX12_put_4 (by decide) ?_
  refine lv_icmp_ge hx hb dX12_put_7 rfl (fun h => ?_) (fun h => ?_)
  · have hf := itp h hf
    exact bX12_put_20 X   J (lv_sub hl [0] rfl) hf
  · have hf := itn h hf
    refine lv_aload_n hx hb dX12_put_10 rfl (lv_at hl 0 rfl) ?_
    refine gf_X12_111 X J dX12_put_11 ?_
    refine lv_aload_n hx hb dX12_put_14 rfl (lv_at hl 0 rfl) ?_
    refine gf_X12_421 X J dX12_put_15 ?_
    refine lv_iload_n hx hb dX12_put_18 rfl (lv_at hl 1 rfl) ?_
    obtain ⟨hin, hf⟩ := itx hf
    refine as_X12_X12f60 X J hin dX12_put_19 (fun σ2 H locs eq J => ?_)
    have hf := bnd_eq eq hf
    clear eq
    exact bX12_put_20 X   J (lv_sub hl [0] rfl) hf
set_option maxHeartbeats 4000000 in
theorem tX12_task {a1_ : Int32} {a2_ : Int32}  {σ u : zSt} {r : Unit} (hf : fX12_task N a1_ a2_ σ = some (r, u)) : zMv l yX12_task cX12_task 3 none (0) D cy shR ad ts lnR [.ref (ad 0), .int a1_, .int a2_] σ u := by
  refine zM_of (by decide) (Nat.le_of_ble_eq_true rfl) (fun p e s m args below meth c ls ha X J hl => ?_)
  have hx := X.1
  have hb := X.2.1
  have hl : lv_has ls 3 [(0, .ref (ad 0)), (1, .int a1_), (2, .int a2_)] := hl
  generalize s.heap = H at J ⊢
  generalize ([] : List Loc) = locs at J ⊢
  show W p l e (zRm (0)) s m args below meth c H locs 0 0 (zQv D cy shR ad ts lnR below args s (r, u)) (F0 m 0 ls [])
  unfold fX12_task at hf
  refine lv_aload_n hx hb dX12_task_0 rfl (lv_at hl 0 rfl) ?_
  refine gf_X12_117 X J dX12_task_1 ?_
  refine lv_aload_n hx hb dX12_task_4 rfl (lv_at hl 0 rfl) ?_
  refine gf_X12_430 X J dX12_task_5 ?_
  refine lv_iload_n hx hb dX12_task_8 rfl (lv_at hl 1 rfl) ?_
  obtain ⟨hin, hf⟩ := itx hf
  refine as_X12_X12f64 X J hin dX12_task_9 (fun σ1 H locs eq J => ?_)
  have hf := bnd_eq eq hf
  clear eq
  refine lv_aload_n hx hb dX12_task_10 rfl (lv_at hl 0 rfl) ?_
  refine gf_X12_120 X J dX12_task_11 ?_
  refine lv_aload_n hx hb dX12_task_14 rfl (lv_at hl 0 rfl) ?_
  refine gf_X12_430 X J dX12_task_15 ?_
  refine lv_iload_n hx hb dX12_task_18 rfl (lv_at hl 2 rfl) ?_
  obtain ⟨hin, hf⟩ := itx hf
  refine as_X12_X12f65 X J hin dX12_task_19 (fun σ2 H locs eq J => ?_)
  have hf := bnd_eq eq hf
  clear eq
  refine lv_aload_n hx hb dX12_task_20 rfl (lv_at hl 0 rfl) ?_
  refine lv_dup hx hb dX12_task_21 rfl ?_
  refine gf_X12_430 X J dX12_task_22 ?_
  refine lv_iconst (v := (1 : Int32)) hx hb dX12_task_25 (by decide) ?_
  refine lv_iadd hx hb dX12_task_26 ?_
  refine pf_X12_430 X J dX12_task_27 (fun σ3 H locs eq J => ?_)
  have hf := bnd_eq eq hf
  clear eq
  exact zr_vret X J hf dX12_task_30
set_option maxHeartbeats 4000000 in
theorem tX12_begins2 {a1_ : Int32}  {σ u : zSt} {r : Unit} (hf : fX12_begins2 N a1_ σ = some (r, u)) : zMv l yX12_begins2 cX12_begins2 2 none (1) D cy shR ad ts lnR [.ref (ad 0), .int a1_] σ u := by
  refine zM_of (by decide) (Nat.le_of_ble_eq_true rfl) (fun p e s m args below meth c ls ha X J hl => ?_)
  have hx := X.1
  have hb := X.2.1
  have hl : lv_has ls 2 [(0, .ref (ad 0)), (1, .int a1_)] := hl
  generalize s.heap = H at J ⊢
  generalize ([] : List Loc) = locs at J ⊢
  show W p l e (zRm (1)) s m args below meth c H locs 0 0 (zQv D cy shR ad ts lnR below args s (r, u)) (F0 m 0 ls [])
  unfold fX12_begins2 at hf
  refine lv_aload_n hx hb dX12_begins2_0 rfl (lv_at hl 0 rfl) ?_
  refine gf_X12_53 X J dX12_begins2_1 ?_
  refine lv_iload_n hx hb dX12_begins2_4 rfl (lv_at hl 1 rfl) ?_
  obtain ⟨hin, hf⟩ := itx hf
  refine al_X12_X12f39 X J hin dX12_begins2_5 ?_
  refine lv_topi (fun x1 eq => ?_)
  have hf := bnd_eq eq hf
  clear eq
  by_cases h0_ : x1 = (20 : Int32)
  · have hf := itp h0_ hf
    rw [h0_]
    refine lv_tableIn hx hb dX12_begins2_6 (by decide) (by decide) (tgt := 64) (by rfl) (by decide) ?_
    refine lv_aload_n hx hb dX12_begins2_64 rfl (lv_at hl 0 rfl) ?_
    refine gf_X12_56 X J dX12_begins2_65 ?_
    refine lv_iload_n hx hb dX12_begins2_68 rfl (lv_at hl 1 rfl) ?_
    obtain ⟨hin, hf⟩ := itx hf
    refine al_X12_X12f40 X J hin dX12_begins2_69 ?_
    refine lv_if_lt hx hb dX12_begins2_70 rfl (fun h => ?_) (fun h => ?_)
    · have hf := itp h hf
      exact zr_vret X J hf dX12_begins2_190
    · have hf := itn h hf
      refine lv_aload_n hx hb dX12_begins2_73 rfl (lv_at hl 0 rfl) ?_
      refine lv_iconst (v := (1 : Int32)) hx hb dX12_begins2_74 (by decide) ?_
      refine lv_aload_n hx hb dX12_begins2_75 rfl (lv_at hl 0 rfl) ?_
      refine gf_X12_56 X J dX12_begins2_76 ?_
      refine lv_iload_n hx hb dX12_begins2_79 rfl (lv_at hl 1 rfl) ?_
      obtain ⟨hin, hf⟩ := itx hf
      refine al_X12_X12f40 X J hin dX12_begins2_80 ?_
      obtain ⟨r2, σ3, hc, hf⟩ := obd_some hf
      refine zr_callv (As := [.int (1 : Int32), .int (zA σ 16 a1_.toNatClampNeg)]) (rest := []) X J 0 ho_R_X12.1 ho_R_X12.2.1 ho_R_X12.2.2 yy_X12_task mw_methodLink_TinyCModel_433_TinyCModel_task_IIV (d := 0) (zR_ok (by omega) (by decide)) hl.1 rfl (Nat.le_of_ble_eq_true rfl) (tX12_task  hc) dX12_begins2_81 (fun H locs J => ?_)
      refine lv_goto hx hb dX12_begins2_84 rfl ?_
      exact zr_vret X J hf dX12_begins2_190
  have hf := itn h0_ hf
  by_cases h1_ : x1 = (21 : Int32)
  · have hf := itp h1_ hf
    rw [h1_]
    refine lv_tableIn hx hb dX12_begins2_6 (by decide) (by decide) (tgt := 151) (by rfl) (by decide) ?_
    refine lv_aload_n hx hb dX12_begins2_151 rfl (lv_at hl 0 rfl) ?_
    refine lv_iconst (v := (4 : Int32)) hx hb dX12_begins2_152 (by decide) ?_
    refine lv_iload_n hx hb dX12_begins2_153 rfl (lv_at hl 1 rfl) ?_
    obtain ⟨r4, σ5, hc, hf⟩ := obd_some hf
    refine zr_callv (As := [.int (4 : Int32), .int a1_]) (rest := []) X J 0 ho_R_X12.1 ho_R_X12.2.1 ho_R_X12.2.2 yy_X12_task mw_methodLink_TinyCModel_433_TinyCModel_task_IIV (d := 0) (zR_ok (by omega) (by decide)) hl.1 rfl (Nat.le_of_ble_eq_true rfl) (tX12_task  hc) dX12_begins2_154 (fun H locs J => ?_)
    refine lv_aload_n hx hb dX12_begins2_157 rfl (lv_at hl 0 rfl) ?_
    refine gf_X12_56 X J dX12_begins2_158 ?_
    refine lv_iload_n hx hb dX12_begins2_161 rfl (lv_at hl 1 rfl) ?_
    obtain ⟨hin, hf⟩ := itx hf
    refine al_X12_X12f40 X J hin dX12_begins2_162 ?_
    refine lv_if_lt hx hb dX12_begins2_163 rfl (fun h => ?_) (fun h => ?_)
    · have hf := itp h hf
      refine lv_aload_n hx hb dX12_begins2_180 rfl (lv_at hl 0 rfl) ?_
      refine lv_iconst (v := (1 : Int32)) hx hb dX12_begins2_181 (by decide) ?_
      obtain ⟨r6, σ7, hc, hf⟩ := obd_some hf
      refine zr_callv (As := [.int (1 : Int32)]) (rest := []) X J 0 ho_R_X12.1 ho_R_X12.2.1 ho_R_X12.2.2 yy_X12_put mw_methodLink_TinyCModel_424_TinyCModel_put_IV (d := 0) (zR_ok (by omega) (by decide)) hl.1 rfl (Nat.le_of_ble_eq_true rfl) (tX12_put  hc) dX12_begins2_182 (fun H locs J => ?_)
      refine lv_aload_n hx hb dX12_begins2_185 rfl (lv_at hl 0 rfl) ?_
      refine lv_iconst (v := (0 : Int32)) hx hb dX12_begins2_186 (by decide) ?_
      obtain ⟨r8, σ9, hc, hf⟩ := obd_some hf
      refine zr_callv (As := [.int (0 : Int32)]) (rest := []) X J 0 ho_R_X12.1 ho_R_X12.2.1 ho_R_X12.2.2 yy_X12_put mw_methodLink_TinyCModel_424_TinyCModel_put_IV (d := 0) (zR_ok (by omega) (by decide)) hl.1 rfl (Nat.le_of_ble_eq_true rfl) (tX12_put  hc) dX12_begins2_187 (fun H locs J => ?_)
      exact zr_vret X J hf dX12_begins2_190
    · have hf := itn h hf
      refine lv_aload_n hx hb dX12_begins2_166 rfl (lv_at hl 0 rfl) ?_
      refine lv_iconst (v := (2 : Int32)) hx hb dX12_begins2_167 (by decide) ?_
      refine lv_aload_n hx hb dX12_begins2_168 rfl (lv_at hl 0 rfl) ?_
      refine gf_X12_56 X J dX12_begins2_169 ?_
      refine lv_iload_n hx hb dX12_begins2_172 rfl (lv_at hl 1 rfl) ?_
      obtain ⟨hin, hf⟩ := itx hf
      refine al_X12_X12f40 X J hin dX12_begins2_173 ?_
      obtain ⟨r10, σ11, hc, hf⟩ := obd_some hf
      refine zr_callv (As := [.int (2 : Int32), .int (zA σ5 16 a1_.toNatClampNeg)]) (rest := []) X J 0 ho_R_X12.1 ho_R_X12.2.1 ho_R_X12.2.2 yy_X12_task mw_methodLink_TinyCModel_433_TinyCModel_task_IIV (d := 0) (zR_ok (by omega) (by decide)) hl.1 rfl (Nat.le_of_ble_eq_true rfl) (tX12_task  hc) dX12_begins2_174 (fun H locs J => ?_)
      refine lv_goto hx hb dX12_begins2_177 rfl ?_
      exact zr_vret X J hf dX12_begins2_190
  have hf := itn h1_ hf
  by_cases h2_ : x1 = (22 : Int32)
  · have hf := itp h2_ hf
    rw [h2_]
    refine lv_tableIn hx hb dX12_begins2_6 (by decide) (by decide) (tgt := 121) (by rfl) (by decide) ?_
    refine lv_aload_n hx hb dX12_begins2_121 rfl (lv_at hl 0 rfl) ?_
    refine gf_X12_123 X J dX12_begins2_122 ?_
    refine lv_iload_n hx hb dX12_begins2_125 rfl (lv_at hl 1 rfl) ?_
    refine lv_aload_n hx hb dX12_begins2_126 rfl (lv_at hl 0 rfl) ?_
    refine gf_X12_421 X J dX12_begins2_127 ?_
    obtain ⟨hin, hf⟩ := itx hf
    refine as_X12_X12f66 X J hin dX12_begins2_130 (fun σ12 H locs eq J => ?_)
    have hf := bnd_eq eq hf
    clear eq
    refine lv_aload_n hx hb dX12_begins2_131 rfl (lv_at hl 0 rfl) ?_
    refine lv_iconst (v := (5 : Int32)) hx hb dX12_begins2_132 (by decide) ?_
    refine lv_iload_n hx hb dX12_begins2_133 rfl (lv_at hl 1 rfl) ?_
    obtain ⟨r13, σ14, hc, hf⟩ := obd_some hf
    refine zr_callv (As := [.int (5 : Int32), .int a1_]) (rest := []) X J 0 ho_R_X12.1 ho_R_X12.2.1 ho_R_X12.2.2 yy_X12_task mw_methodLink_TinyCModel_433_TinyCModel_task_IIV (d := 0) (zR_ok (by omega) (by decide)) hl.1 rfl (Nat.le_of_ble_eq_true rfl) (tX12_task  hc) dX12_begins2_134 (fun H locs J => ?_)
    refine lv_aload_n hx hb dX12_begins2_137 rfl (lv_at hl 0 rfl) ?_
    refine lv_iconst (v := (2 : Int32)) hx hb dX12_begins2_138 (by decide) ?_
    refine lv_aload_n hx hb dX12_begins2_139 rfl (lv_at hl 0 rfl) ?_
    refine gf_X12_56 X J dX12_begins2_140 ?_
    refine lv_iload_n hx hb dX12_begins2_143 rfl (lv_at hl 1 rfl) ?_
    obtain ⟨hin, hf⟩ := itx hf
    refine al_X12_X12f40 X J hin dX12_begins2_144 ?_
    obtain ⟨r15, σ16, hc, hf⟩ := obd_some hf
    refine zr_callv (As := [.int (2 : Int32), .int (zA σ14 16 a1_.toNatClampNeg)]) (rest := []) X J 0 ho_R_X12.1 ho_R_X12.2.1 ho_R_X12.2.2 yy_X12_task mw_methodLink_TinyCModel_433_TinyCModel_task_IIV (d := 0) (zR_ok (by omega) (by decide)) hl.1 rfl (Nat.le_of_ble_eq_true rfl) (tX12_task  hc) dX12_begins2_145 (fun H locs J => ?_)
    refine lv_goto hx hb dX12_begins2_148 rfl ?_
    exact zr_vret X J hf dX12_begins2_190
  have hf := itn h2_ hf
  by_cases h3_ : x1 = (23 : Int32)
  · have hf := itp h3_ hf
    rw [h3_]
    refine lv_tableIn hx hb dX12_begins2_6 (by decide) (by decide) (tgt := 121) (by rfl) (by decide) ?_
    refine lv_aload_n hx hb dX12_begins2_121 rfl (lv_at hl 0 rfl) ?_
    refine gf_X12_123 X J dX12_begins2_122 ?_
    refine lv_iload_n hx hb dX12_begins2_125 rfl (lv_at hl 1 rfl) ?_
    refine lv_aload_n hx hb dX12_begins2_126 rfl (lv_at hl 0 rfl) ?_
    refine gf_X12_421 X J dX12_begins2_127 ?_
    obtain ⟨hin, hf⟩ := itx hf
    refine as_X12_X12f66 X J hin dX12_begins2_130 (fun σ17 H locs eq J => ?_)
    have hf := bnd_eq eq hf
    clear eq
    refine lv_aload_n hx hb dX12_begins2_131 rfl (lv_at hl 0 rfl) ?_
    refine lv_iconst (v := (5 : Int32)) hx hb dX12_begins2_132 (by decide) ?_
    refine lv_iload_n hx hb dX12_begins2_133 rfl (lv_at hl 1 rfl) ?_
    obtain ⟨r18, σ19, hc, hf⟩ := obd_some hf
    refine zr_callv (As := [.int (5 : Int32), .int a1_]) (rest := []) X J 0 ho_R_X12.1 ho_R_X12.2.1 ho_R_X12.2.2 yy_X12_task mw_methodLink_TinyCModel_433_TinyCModel_task_IIV (d := 0) (zR_ok (by omega) (by decide)) hl.1 rfl (Nat.le_of_ble_eq_true rfl) (tX12_task  hc) dX12_begins2_134 (fun H locs J => ?_)
    refine lv_aload_n hx hb dX12_begins2_137 rfl (lv_at hl 0 rfl) ?_
    refine lv_iconst (v := (2 : Int32)) hx hb dX12_begins2_138 (by decide) ?_
    refine lv_aload_n hx hb dX12_begins2_139 rfl (lv_at hl 0 rfl) ?_
    refine gf_X12_56 X J dX12_begins2_140 ?_
    refine lv_iload_n hx hb dX12_begins2_143 rfl (lv_at hl 1 rfl) ?_
    obtain ⟨hin, hf⟩ := itx hf
    refine al_X12_X12f40 X J hin dX12_begins2_144 ?_
    obtain ⟨r20, σ21, hc, hf⟩ := obd_some hf
    refine zr_callv (As := [.int (2 : Int32), .int (zA σ19 16 a1_.toNatClampNeg)]) (rest := []) X J 0 ho_R_X12.1 ho_R_X12.2.1 ho_R_X12.2.2 yy_X12_task mw_methodLink_TinyCModel_433_TinyCModel_task_IIV (d := 0) (zR_ok (by omega) (by decide)) hl.1 rfl (Nat.le_of_ble_eq_true rfl) (tX12_task  hc) dX12_begins2_145 (fun H locs J => ?_)
    refine lv_goto hx hb dX12_begins2_148 rfl ?_
    exact zr_vret X J hf dX12_begins2_190
  have hf := itn h3_ hf
  by_cases h4_ : x1 = (24 : Int32)
  · have hf := itp h4_ hf
    rw [h4_]
    refine lv_tableIn hx hb dX12_begins2_6 (by decide) (by decide) (tgt := 151) (by rfl) (by decide) ?_
    refine lv_aload_n hx hb dX12_begins2_151 rfl (lv_at hl 0 rfl) ?_
    refine lv_iconst (v := (4 : Int32)) hx hb dX12_begins2_152 (by decide) ?_
    refine lv_iload_n hx hb dX12_begins2_153 rfl (lv_at hl 1 rfl) ?_
    obtain ⟨r22, σ23, hc, hf⟩ := obd_some hf
    refine zr_callv (As := [.int (4 : Int32), .int a1_]) (rest := []) X J 0 ho_R_X12.1 ho_R_X12.2.1 ho_R_X12.2.2 yy_X12_task mw_methodLink_TinyCModel_433_TinyCModel_task_IIV (d := 0) (zR_ok (by omega) (by decide)) hl.1 rfl (Nat.le_of_ble_eq_true rfl) (tX12_task  hc) dX12_begins2_154 (fun H locs J => ?_)
    refine lv_aload_n hx hb dX12_begins2_157 rfl (lv_at hl 0 rfl) ?_
    refine gf_X12_56 X J dX12_begins2_158 ?_
    refine lv_iload_n hx hb dX12_begins2_161 rfl (lv_at hl 1 rfl) ?_
    obtain ⟨hin, hf⟩ := itx hf
    refine al_X12_X12f40 X J hin dX12_begins2_162 ?_
    refine lv_if_lt hx hb dX12_begins2_163 rfl (fun h => ?_) (fun h => ?_)
    · have hf := itp h hf
      refine lv_aload_n hx hb dX12_begins2_180 rfl (lv_at hl 0 rfl) ?_
      refine lv_iconst (v := (1 : Int32)) hx hb dX12_begins2_181 (by decide) ?_
      obtain ⟨r24, σ25, hc, hf⟩ := obd_some hf
      refine zr_callv (As := [.int (1 : Int32)]) (rest := []) X J 0 ho_R_X12.1 ho_R_X12.2.1 ho_R_X12.2.2 yy_X12_put mw_methodLink_TinyCModel_424_TinyCModel_put_IV (d := 0) (zR_ok (by omega) (by decide)) hl.1 rfl (Nat.le_of_ble_eq_true rfl) (tX12_put  hc) dX12_begins2_182 (fun H locs J => ?_)
      refine lv_aload_n hx hb dX12_begins2_185 rfl (lv_at hl 0 rfl) ?_
      refine lv_iconst (v := (0 : Int32)) hx hb dX12_begins2_186 (by decide) ?_
      obtain ⟨r26, σ27, hc, hf⟩ := obd_some hf
      refine zr_callv (As := [.int (0 : Int32)]) (rest := []) X J 0 ho_R_X12.1 ho_R_X12.2.1 ho_R_X12.2.2 yy_X12_put mw_methodLink_TinyCModel_424_TinyCModel_put_IV (d := 0) (zR_ok (by omega) (by decide)) hl.1 rfl (Nat.le_of_ble_eq_true rfl) (tX12_put  hc) dX12_begins2_187 (fun H locs J => ?_)
      exact zr_vret X J hf dX12_begins2_190
    · have hf := itn h hf
      refine lv_aload_n hx hb dX12_begins2_166 rfl (lv_at hl 0 rfl) ?_
      refine lv_iconst (v := (2 : Int32)) hx hb dX12_begins2_167 (by decide) ?_
      refine lv_aload_n hx hb dX12_begins2_168 rfl (lv_at hl 0 rfl) ?_
      refine gf_X12_56 X J dX12_begins2_169 ?_
      refine lv_iload_n hx hb dX12_begins2_172 rfl (lv_at hl 1 rfl) ?_
      obtain ⟨hin, hf⟩ := itx hf
      refine al_X12_X12f40 X J hin dX12_begins2_173 ?_
      obtain ⟨r28, σ29, hc, hf⟩ := obd_some hf
      refine zr_callv (As := [.int (2 : Int32), .int (zA σ23 16 a1_.toNatClampNeg)]) (rest := []) X J 0 ho_R_X12.1 ho_R_X12.2.1 ho_R_X12.2.2 yy_X12_task mw_methodLink_TinyCModel_433_TinyCModel_task_IIV (d := 0) (zR_ok (by omega) (by decide)) hl.1 rfl (Nat.le_of_ble_eq_true rfl) (tX12_task  hc) dX12_begins2_174 (fun H locs J => ?_)
      refine lv_goto hx hb dX12_begins2_177 rfl ?_
      exact zr_vret X J hf dX12_begins2_190
  have hf := itn h4_ hf
  by_cases h5_ : x1 = (25 : Int32)
  · have hf := itp h5_ hf
    rw [h5_]
    refine lv_tableIn hx hb dX12_begins2_6 (by decide) (by decide) (tgt := 151) (by rfl) (by decide) ?_
    refine lv_aload_n hx hb dX12_begins2_151 rfl (lv_at hl 0 rfl) ?_
    refine lv_iconst (v := (4 : Int32)) hx hb dX12_begins2_152 (by decide) ?_
    refine lv_iload_n hx hb dX12_begins2_153 rfl (lv_at hl 1 rfl) ?_
    obtain ⟨r30, σ31, hc, hf⟩ := obd_some hf
    refine zr_callv (As := [.int (4 : Int32), .int a1_]) (rest := []) X J 0 ho_R_X12.1 ho_R_X12.2.1 ho_R_X12.2.2 yy_X12_task mw_methodLink_TinyCModel_433_TinyCModel_task_IIV (d := 0) (zR_ok (by omega) (by decide)) hl.1 rfl (Nat.le_of_ble_eq_true rfl) (tX12_task  hc) dX12_begins2_154 (fun H locs J => ?_)
    refine lv_aload_n hx hb dX12_begins2_157 rfl (lv_at hl 0 rfl) ?_
    refine gf_X12_56 X J dX12_begins2_158 ?_
    refine lv_iload_n hx hb dX12_begins2_161 rfl (lv_at hl 1 rfl) ?_
    obtain ⟨hin, hf⟩ := itx hf
    refine al_X12_X12f40 X J hin dX12_begins2_162 ?_
    refine lv_if_lt hx hb dX12_begins2_163 rfl (fun h => ?_) (fun h => ?_)
    · have hf := itp h hf
      refine lv_aload_n hx hb dX12_begins2_180 rfl (lv_at hl 0 rfl) ?_
      refine lv_iconst (v := (1 : Int32)) hx hb dX12_begins2_181 (by decide) ?_
      obtain ⟨r32, σ33, hc, hf⟩ := obd_some hf
      refine zr_callv (As := [.int (1 : Int32)]) (rest := []) X J 0 ho_R_X12.1 ho_R_X12.2.1 ho_R_X12.2.2 yy_X12_put mw_methodLink_TinyCModel_424_TinyCModel_put_IV (d := 0) (zR_ok (by omega) (by decide)) hl.1 rfl (Nat.le_of_ble_eq_true rfl) (tX12_put  hc) dX12_begins2_182 (fun H locs J => ?_)
      refine lv_aload_n hx hb dX12_begins2_185 rfl (lv_at hl 0 rfl) ?_
      refine lv_iconst (v := (0 : Int32)) hx hb dX12_begins2_186 (by decide) ?_
      obtain ⟨r34, σ35, hc, hf⟩ := obd_some hf
      refine zr_callv (As := [.int (0 : Int32)]) (rest := []) X J 0 ho_R_X12.1 ho_R_X12.2.1 ho_R_X12.2.2 yy_X12_put mw_methodLink_TinyCModel_424_TinyCModel_put_IV (d := 0) (zR_ok (by omega) (by decide)) hl.1 rfl (Nat.le_of_ble_eq_true rfl) (tX12_put  hc) dX12_begins2_187 (fun H locs J => ?_)
      exact zr_vret X J hf dX12_begins2_190
    · have hf := itn h hf
      refine lv_aload_n hx hb dX12_begins2_166 rfl (lv_at hl 0 rfl) ?_
      refine lv_iconst (v := (2 : Int32)) hx hb dX12_begins2_167 (by decide) ?_
      refine lv_aload_n hx hb dX12_begins2_168 rfl (lv_at hl 0 rfl) ?_
      refine gf_X12_56 X J dX12_begins2_169 ?_
      refine lv_iload_n hx hb dX12_begins2_172 rfl (lv_at hl 1 rfl) ?_
      obtain ⟨hin, hf⟩ := itx hf
      refine al_X12_X12f40 X J hin dX12_begins2_173 ?_
      obtain ⟨r36, σ37, hc, hf⟩ := obd_some hf
      refine zr_callv (As := [.int (2 : Int32), .int (zA σ31 16 a1_.toNatClampNeg)]) (rest := []) X J 0 ho_R_X12.1 ho_R_X12.2.1 ho_R_X12.2.2 yy_X12_task mw_methodLink_TinyCModel_433_TinyCModel_task_IIV (d := 0) (zR_ok (by omega) (by decide)) hl.1 rfl (Nat.le_of_ble_eq_true rfl) (tX12_task  hc) dX12_begins2_174 (fun H locs J => ?_)
      refine lv_goto hx hb dX12_begins2_177 rfl ?_
      exact zr_vret X J hf dX12_begins2_190
  have hf := itn h5_ hf
  by_cases h6_ : x1 = (26 : Int32)
  · have hf := itp h6_ hf
    rw [h6_]
    refine lv_tableIn hx hb dX12_begins2_6 (by decide) (by decide) (tgt := 151) (by rfl) (by decide) ?_
    refine lv_aload_n hx hb dX12_begins2_151 rfl (lv_at hl 0 rfl) ?_
    refine lv_iconst (v := (4 : Int32)) hx hb dX12_begins2_152 (by decide) ?_
    refine lv_iload_n hx hb dX12_begins2_153 rfl (lv_at hl 1 rfl) ?_
    obtain ⟨r38, σ39, hc, hf⟩ := obd_some hf
    refine zr_callv (As := [.int (4 : Int32), .int a1_]) (rest := []) X J 0 ho_R_X12.1 ho_R_X12.2.1 ho_R_X12.2.2 yy_X12_task mw_methodLink_TinyCModel_433_TinyCModel_task_IIV (d := 0) (zR_ok (by omega) (by decide)) hl.1 rfl (Nat.le_of_ble_eq_true rfl) (tX12_task  hc) dX12_begins2_154 (fun H locs J => ?_)
    refine lv_aload_n hx hb dX12_begins2_157 rfl (lv_at hl 0 rfl) ?_
    refine gf_X12_56 X J dX12_begins2_158 ?_
    refine lv_iload_n hx hb dX12_begins2_161 rfl (lv_at hl 1 rfl) ?_
    obtain ⟨hin, hf⟩ := itx hf
    refine al_X12_X12f40 X J hin dX12_begins2_162 ?_
    refine lv_if_lt hx hb dX12_begins2_163 rfl (fun h => ?_) (fun h => ?_)
    · have hf := itp h hf
      refine lv_aload_n hx hb dX12_begins2_180 rfl (lv_at hl 0 rfl) ?_
      refine lv_iconst (v := (1 : Int32)) hx hb dX12_begins2_181 (by decide) ?_
      obtain ⟨r40, σ41, hc, hf⟩ := obd_some hf
      refine zr_callv (As := [.int (1 : Int32)]) (rest := []) X J 0 ho_R_X12.1 ho_R_X12.2.1 ho_R_X12.2.2 yy_X12_put mw_methodLink_TinyCModel_424_TinyCModel_put_IV (d := 0) (zR_ok (by omega) (by decide)) hl.1 rfl (Nat.le_of_ble_eq_true rfl) (tX12_put  hc) dX12_begins2_182 (fun H locs J => ?_)
      refine lv_aload_n hx hb dX12_begins2_185 rfl (lv_at hl 0 rfl) ?_
      refine lv_iconst (v := (0 : Int32)) hx hb dX12_begins2_186 (by decide) ?_
      obtain ⟨r42, σ43, hc, hf⟩ := obd_some hf
      refine zr_callv (As := [.int (0 : Int32)]) (rest := []) X J 0 ho_R_X12.1 ho_R_X12.2.1 ho_R_X12.2.2 yy_X12_put mw_methodLink_TinyCModel_424_TinyCModel_put_IV (d := 0) (zR_ok (by omega) (by decide)) hl.1 rfl (Nat.le_of_ble_eq_true rfl) (tX12_put  hc) dX12_begins2_187 (fun H locs J => ?_)
      exact zr_vret X J hf dX12_begins2_190
    · have hf := itn h hf
      refine lv_aload_n hx hb dX12_begins2_166 rfl (lv_at hl 0 rfl) ?_
      refine lv_iconst (v := (2 : Int32)) hx hb dX12_begins2_167 (by decide) ?_
      refine lv_aload_n hx hb dX12_begins2_168 rfl (lv_at hl 0 rfl) ?_
      refine gf_X12_56 X J dX12_begins2_169 ?_
      refine lv_iload_n hx hb dX12_begins2_172 rfl (lv_at hl 1 rfl) ?_
      obtain ⟨hin, hf⟩ := itx hf
      refine al_X12_X12f40 X J hin dX12_begins2_173 ?_
      obtain ⟨r44, σ45, hc, hf⟩ := obd_some hf
      refine zr_callv (As := [.int (2 : Int32), .int (zA σ39 16 a1_.toNatClampNeg)]) (rest := []) X J 0 ho_R_X12.1 ho_R_X12.2.1 ho_R_X12.2.2 yy_X12_task mw_methodLink_TinyCModel_433_TinyCModel_task_IIV (d := 0) (zR_ok (by omega) (by decide)) hl.1 rfl (Nat.le_of_ble_eq_true rfl) (tX12_task  hc) dX12_begins2_174 (fun H locs J => ?_)
      refine lv_goto hx hb dX12_begins2_177 rfl ?_
      exact zr_vret X J hf dX12_begins2_190
  have hf := itn h6_ hf
  by_cases h7_ : x1 = (27 : Int32)
  · have hf := itp h7_ hf
    rw [h7_]
    refine lv_tableIn hx hb dX12_begins2_6 (by decide) (by decide) (tgt := 151) (by rfl) (by decide) ?_
    refine lv_aload_n hx hb dX12_begins2_151 rfl (lv_at hl 0 rfl) ?_
    refine lv_iconst (v := (4 : Int32)) hx hb dX12_begins2_152 (by decide) ?_
    refine lv_iload_n hx hb dX12_begins2_153 rfl (lv_at hl 1 rfl) ?_
    obtain ⟨r46, σ47, hc, hf⟩ := obd_some hf
    refine zr_callv (As := [.int (4 : Int32), .int a1_]) (rest := []) X J 0 ho_R_X12.1 ho_R_X12.2.1 ho_R_X12.2.2 yy_X12_task mw_methodLink_TinyCModel_433_TinyCModel_task_IIV (d := 0) (zR_ok (by omega) (by decide)) hl.1 rfl (Nat.le_of_ble_eq_true rfl) (tX12_task  hc) dX12_begins2_154 (fun H locs J => ?_)
    refine lv_aload_n hx hb dX12_begins2_157 rfl (lv_at hl 0 rfl) ?_
    refine gf_X12_56 X J dX12_begins2_158 ?_
    refine lv_iload_n hx hb dX12_begins2_161 rfl (lv_at hl 1 rfl) ?_
    obtain ⟨hin, hf⟩ := itx hf
    refine al_X12_X12f40 X J hin dX12_begins2_162 ?_
    refine lv_if_lt hx hb dX12_begins2_163 rfl (fun h => ?_) (fun h => ?_)
    · have hf := itp h hf
      refine lv_aload_n hx hb dX12_begins2_180 rfl (lv_at hl 0 rfl) ?_
      refine lv_iconst (v := (1 : Int32)) hx hb dX12_begins2_181 (by decide) ?_
      obtain ⟨r48, σ49, hc, hf⟩ := obd_some hf
      refine zr_callv (As := [.int (1 : Int32)]) (rest := []) X J 0 ho_R_X12.1 ho_R_X12.2.1 ho_R_X12.2.2 yy_X12_put mw_methodLink_TinyCModel_424_TinyCModel_put_IV (d := 0) (zR_ok (by omega) (by decide)) hl.1 rfl (Nat.le_of_ble_eq_true rfl) (tX12_put  hc) dX12_begins2_182 (fun H locs J => ?_)
      refine lv_aload_n hx hb dX12_begins2_185 rfl (lv_at hl 0 rfl) ?_
      refine lv_iconst (v := (0 : Int32)) hx hb dX12_begins2_186 (by decide) ?_
      obtain ⟨r50, σ51, hc, hf⟩ := obd_some hf
      refine zr_callv (As := [.int (0 : Int32)]) (rest := []) X J 0 ho_R_X12.1 ho_R_X12.2.1 ho_R_X12.2.2 yy_X12_put mw_methodLink_TinyCModel_424_TinyCModel_put_IV (d := 0) (zR_ok (by omega) (by decide)) hl.1 rfl (Nat.le_of_ble_eq_true rfl) (tX12_put  hc) dX12_begins2_187 (fun H locs J => ?_)
      exact zr_vret X J hf dX12_begins2_190
    · have hf := itn h hf
      refine lv_aload_n hx hb dX12_begins2_166 rfl (lv_at hl 0 rfl) ?_
      refine lv_iconst (v := (2 : Int32)) hx hb dX12_begins2_167 (by decide) ?_
      refine lv_aload_n hx hb dX12_begins2_168 rfl (lv_at hl 0 rfl) ?_
      refine gf_X12_56 X J dX12_begins2_169 ?_
      refine lv_iload_n hx hb dX12_begins2_172 rfl (lv_at hl 1 rfl) ?_
      obtain ⟨hin, hf⟩ := itx hf
      refine al_X12_X12f40 X J hin dX12_begins2_173 ?_
      obtain ⟨r52, σ53, hc, hf⟩ := obd_some hf
      refine zr_callv (As := [.int (2 : Int32), .int (zA σ47 16 a1_.toNatClampNeg)]) (rest := []) X J 0 ho_R_X12.1 ho_R_X12.2.1 ho_R_X12.2.2 yy_X12_task mw_methodLink_TinyCModel_433_TinyCModel_task_IIV (d := 0) (zR_ok (by omega) (by decide)) hl.1 rfl (Nat.le_of_ble_eq_true rfl) (tX12_task  hc) dX12_begins2_174 (fun H locs J => ?_)
      refine lv_goto hx hb dX12_begins2_177 rfl ?_
      exact zr_vret X J hf dX12_begins2_190
  have hf := itn h7_ hf
  by_cases h8_ : x1 = (28 : Int32)
  · have hf := itp h8_ hf
    rw [h8_]
    refine lv_tableIn hx hb dX12_begins2_6 (by decide) (by decide) (tgt := 90) (by rfl) (by decide) ?_
    refine lv_aload_n hx hb dX12_begins2_90 rfl (lv_at hl 0 rfl) ?_
    refine lv_iconst (v := (4 : Int32)) hx hb dX12_begins2_91 (by decide) ?_
    refine lv_iload_n hx hb dX12_begins2_92 rfl (lv_at hl 1 rfl) ?_
    obtain ⟨r54, σ55, hc, hf⟩ := obd_some hf
    refine zr_callv (As := [.int (4 : Int32), .int a1_]) (rest := []) X J 0 ho_R_X12.1 ho_R_X12.2.1 ho_R_X12.2.2 yy_X12_task mw_methodLink_TinyCModel_433_TinyCModel_task_IIV (d := 0) (zR_ok (by omega) (by decide)) hl.1 rfl (Nat.le_of_ble_eq_true rfl) (tX12_task  hc) dX12_begins2_93 (fun H locs J => ?_)
    refine lv_aload_n hx hb dX12_begins2_96 rfl (lv_at hl 0 rfl) ?_
    refine lv_iconst (v := (2 : Int32)) hx hb dX12_begins2_97 (by decide) ?_
    refine lv_aload_n hx hb dX12_begins2_98 rfl (lv_at hl 0 rfl) ?_
    refine gf_X12_59 X J dX12_begins2_99 ?_
    refine lv_iload_n hx hb dX12_begins2_102 rfl (lv_at hl 1 rfl) ?_
    obtain ⟨hin, hf⟩ := itx hf
    refine al_X12_X12f41 X J hin dX12_begins2_103 ?_
    obtain ⟨r56, σ57, hc, hf⟩ := obd_some hf
    refine zr_callv (As := [.int (2 : Int32), .int (zA σ55 17 a1_.toNatClampNeg)]) (rest := []) X J 0 ho_R_X12.1 ho_R_X12.2.1 ho_R_X12.2.2 yy_X12_task mw_methodLink_TinyCModel_433_TinyCModel_task_IIV (d := 0) (zR_ok (by omega) (by decide)) hl.1 rfl (Nat.le_of_ble_eq_true rfl) (tX12_task  hc) dX12_begins2_104 (fun H locs J => ?_)
    refine lv_aload_n hx hb dX12_begins2_107 rfl (lv_at hl 0 rfl) ?_
    refine lv_iconst (v := (2 : Int32)) hx hb dX12_begins2_108 (by decide) ?_
    refine lv_aload_n hx hb dX12_begins2_109 rfl (lv_at hl 0 rfl) ?_
    refine gf_X12_56 X J dX12_begins2_110 ?_
    refine lv_iload_n hx hb dX12_begins2_113 rfl (lv_at hl 1 rfl) ?_
    obtain ⟨hin, hf⟩ := itx hf
    refine al_X12_X12f40 X J hin dX12_begins2_114 ?_
    obtain ⟨r58, σ59, hc, hf⟩ := obd_some hf
    refine zr_callv (As := [.int (2 : Int32), .int (zA σ57 16 a1_.toNatClampNeg)]) (rest := []) X J 0 ho_R_X12.1 ho_R_X12.2.1 ho_R_X12.2.2 yy_X12_task mw_methodLink_TinyCModel_433_TinyCModel_task_IIV (d := 0) (zR_ok (by omega) (by decide)) hl.1 rfl (Nat.le_of_ble_eq_true rfl) (tX12_task  hc) dX12_begins2_115 (fun H locs J => ?_)
    refine lv_goto hx hb dX12_begins2_118 rfl ?_
    exact zr_vret X J hf dX12_begins2_190
  have hf := itn h8_ hf
  by_cases h9_ : x1 = (29 : Int32)
  · have hf := itp h9_ hf
    rw [h9_]
    refine lv_tableIn hx hb dX12_begins2_6 (by decide) (by decide) (tgt := 151) (by rfl) (by decide) ?_
    refine lv_aload_n hx hb dX12_begins2_151 rfl (lv_at hl 0 rfl) ?_
    refine lv_iconst (v := (4 : Int32)) hx hb dX12_begins2_152 (by decide) ?_
    refine lv_iload_n hx hb dX12_begins2_153 rfl (lv_at hl 1 rfl) ?_
    obtain ⟨r60, σ61, hc, hf⟩ := obd_some hf
    refine zr_callv (As := [.int (4 : Int32), .int a1_]) (rest := []) X J 0 ho_R_X12.1 ho_R_X12.2.1 ho_R_X12.2.2 yy_X12_task mw_methodLink_TinyCModel_433_TinyCModel_task_IIV (d := 0) (zR_ok (by omega) (by decide)) hl.1 rfl (Nat.le_of_ble_eq_true rfl) (tX12_task  hc) dX12_begins2_154 (fun H locs J => ?_)
    refine lv_aload_n hx hb dX12_begins2_157 rfl (lv_at hl 0 rfl) ?_
    refine gf_X12_56 X J dX12_begins2_158 ?_
    refine lv_iload_n hx hb dX12_begins2_161 rfl (lv_at hl 1 rfl) ?_
    obtain ⟨hin, hf⟩ := itx hf
    refine al_X12_X12f40 X J hin dX12_begins2_162 ?_
    refine lv_if_lt hx hb dX12_begins2_163 rfl (fun h => ?_) (fun h => ?_)
    · have hf := itp h hf
      refine lv_aload_n hx hb dX12_begins2_180 rfl (lv_at hl 0 rfl) ?_
      refine lv_iconst (v := (1 : Int32)) hx hb dX12_begins2_181 (by decide) ?_
      obtain ⟨r62, σ63, hc, hf⟩ := obd_some hf
      refine zr_callv (As := [.int (1 : Int32)]) (rest := []) X J 0 ho_R_X12.1 ho_R_X12.2.1 ho_R_X12.2.2 yy_X12_put mw_methodLink_TinyCModel_424_TinyCModel_put_IV (d := 0) (zR_ok (by omega) (by decide)) hl.1 rfl (Nat.le_of_ble_eq_true rfl) (tX12_put  hc) dX12_begins2_182 (fun H locs J => ?_)
      refine lv_aload_n hx hb dX12_begins2_185 rfl (lv_at hl 0 rfl) ?_
      refine lv_iconst (v := (0 : Int32)) hx hb dX12_begins2_186 (by decide) ?_
      obtain ⟨r64, σ65, hc, hf⟩ := obd_some hf
      refine zr_callv (As := [.int (0 : Int32)]) (rest := []) X J 0 ho_R_X12.1 ho_R_X12.2.1 ho_R_X12.2.2 yy_X12_put mw_methodLink_TinyCModel_424_TinyCModel_put_IV (d := 0) (zR_ok (by omega) (by decide)) hl.1 rfl (Nat.le_of_ble_eq_true rfl) (tX12_put  hc) dX12_begins2_187 (fun H locs J => ?_)
      exact zr_vret X J hf dX12_begins2_190
    · have hf := itn h hf
      refine lv_aload_n hx hb dX12_begins2_166 rfl (lv_at hl 0 rfl) ?_
      refine lv_iconst (v := (2 : Int32)) hx hb dX12_begins2_167 (by decide) ?_
      refine lv_aload_n hx hb dX12_begins2_168 rfl (lv_at hl 0 rfl) ?_
      refine gf_X12_56 X J dX12_begins2_169 ?_
      refine lv_iload_n hx hb dX12_begins2_172 rfl (lv_at hl 1 rfl) ?_
      obtain ⟨hin, hf⟩ := itx hf
      refine al_X12_X12f40 X J hin dX12_begins2_173 ?_
      obtain ⟨r66, σ67, hc, hf⟩ := obd_some hf
      refine zr_callv (As := [.int (2 : Int32), .int (zA σ61 16 a1_.toNatClampNeg)]) (rest := []) X J 0 ho_R_X12.1 ho_R_X12.2.1 ho_R_X12.2.2 yy_X12_task mw_methodLink_TinyCModel_433_TinyCModel_task_IIV (d := 0) (zR_ok (by omega) (by decide)) hl.1 rfl (Nat.le_of_ble_eq_true rfl) (tX12_task  hc) dX12_begins2_174 (fun H locs J => ?_)
      refine lv_goto hx hb dX12_begins2_177 rfl ?_
      exact zr_vret X J hf dX12_begins2_190
  have hf := itn h9_ hf
  by_cases h10_ : x1 = (30 : Int32)
  · have hf := itp h10_ hf
    rw [h10_]
    refine lv_tableIn hx hb dX12_begins2_6 (by decide) (by decide) (tgt := 87) (by rfl) (by decide) ?_
    refine lv_goto hx hb dX12_begins2_87 rfl ?_
    exact zr_vret X J hf dX12_begins2_190
  have hf := itn h10_ hf
  refine lv_tableOut hx hb dX12_begins2_6 (tgt := 151) (by have := lv_neT h0_ (a := 20) (by decide); have := lv_neT h1_ (a := 21) (by decide); have := lv_neT h2_ (a := 22) (by decide); have := lv_neT h3_ (a := 23) (by decide); have := lv_neT h4_ (a := 24) (by decide); have := lv_neT h5_ (a := 25) (by decide); have := lv_neT h6_ (a := 26) (by decide); have := lv_neT h7_ (a := 27) (by decide); have := lv_neT h8_ (a := 28) (by decide); have := lv_neT h9_ (a := 29) (by decide); have := lv_neT h10_ (a := 30) (by decide); omega) (by decide) ?_
  refine lv_aload_n hx hb dX12_begins2_151 rfl (lv_at hl 0 rfl) ?_
  refine lv_iconst (v := (4 : Int32)) hx hb dX12_begins2_152 (by decide) ?_
  refine lv_iload_n hx hb dX12_begins2_153 rfl (lv_at hl 1 rfl) ?_
  obtain ⟨r68, σ69, hc, hf⟩ := obd_some hf
  refine zr_callv (As := [.int (4 : Int32), .int a1_]) (rest := []) X J 0 ho_R_X12.1 ho_R_X12.2.1 ho_R_X12.2.2 yy_X12_task mw_methodLink_TinyCModel_433_TinyCModel_task_IIV (d := 0) (zR_ok (by omega) (by decide)) hl.1 rfl (Nat.le_of_ble_eq_true rfl) (tX12_task  hc) dX12_begins2_154 (fun H locs J => ?_)
  refine lv_aload_n hx hb dX12_begins2_157 rfl (lv_at hl 0 rfl) ?_
  refine gf_X12_56 X J dX12_begins2_158 ?_
  refine lv_iload_n hx hb dX12_begins2_161 rfl (lv_at hl 1 rfl) ?_
  obtain ⟨hin, hf⟩ := itx hf
  refine al_X12_X12f40 X J hin dX12_begins2_162 ?_
  refine lv_if_lt hx hb dX12_begins2_163 rfl (fun h => ?_) (fun h => ?_)
  · have hf := itp h hf
    refine lv_aload_n hx hb dX12_begins2_180 rfl (lv_at hl 0 rfl) ?_
    refine lv_iconst (v := (1 : Int32)) hx hb dX12_begins2_181 (by decide) ?_
    obtain ⟨r70, σ71, hc, hf⟩ := obd_some hf
    refine zr_callv (As := [.int (1 : Int32)]) (rest := []) X J 0 ho_R_X12.1 ho_R_X12.2.1 ho_R_X12.2.2 yy_X12_put mw_methodLink_TinyCModel_424_TinyCModel_put_IV (d := 0) (zR_ok (by omega) (by decide)) hl.1 rfl (Nat.le_of_ble_eq_true rfl) (tX12_put  hc) dX12_begins2_182 (fun H locs J => ?_)
    refine lv_aload_n hx hb dX12_begins2_185 rfl (lv_at hl 0 rfl) ?_
    refine lv_iconst (v := (0 : Int32)) hx hb dX12_begins2_186 (by decide) ?_
    obtain ⟨r72, σ73, hc, hf⟩ := obd_some hf
    refine zr_callv (As := [.int (0 : Int32)]) (rest := []) X J 0 ho_R_X12.1 ho_R_X12.2.1 ho_R_X12.2.2 yy_X12_put mw_methodLink_TinyCModel_424_TinyCModel_put_IV (d := 0) (zR_ok (by omega) (by decide)) hl.1 rfl (Nat.le_of_ble_eq_true rfl) (tX12_put  hc) dX12_begins2_187 (fun H locs J => ?_)
    exact zr_vret X J hf dX12_begins2_190
  · have hf := itn h hf
    refine lv_aload_n hx hb dX12_begins2_166 rfl (lv_at hl 0 rfl) ?_
    refine lv_iconst (v := (2 : Int32)) hx hb dX12_begins2_167 (by decide) ?_
    refine lv_aload_n hx hb dX12_begins2_168 rfl (lv_at hl 0 rfl) ?_
    refine gf_X12_56 X J dX12_begins2_169 ?_
    refine lv_iload_n hx hb dX12_begins2_172 rfl (lv_at hl 1 rfl) ?_
    obtain ⟨hin, hf⟩ := itx hf
    refine al_X12_X12f40 X J hin dX12_begins2_173 ?_
    obtain ⟨r74, σ75, hc, hf⟩ := obd_some hf
    refine zr_callv (As := [.int (2 : Int32), .int (zA σ69 16 a1_.toNatClampNeg)]) (rest := []) X J 0 ho_R_X12.1 ho_R_X12.2.1 ho_R_X12.2.2 yy_X12_task mw_methodLink_TinyCModel_433_TinyCModel_task_IIV (d := 0) (zR_ok (by omega) (by decide)) hl.1 rfl (Nat.le_of_ble_eq_true rfl) (tX12_task  hc) dX12_begins2_174 (fun H locs J => ?_)
    refine lv_goto hx hb dX12_begins2_177 rfl ?_
    exact zr_vret X J hf dX12_begins2_190
set_option maxHeartbeats 4000000 in
theorem bX12_beginsE_94 {o : Unit × zSt} (X : zX p s m args meth c D cy shR ad ts cX12_beginsE 2 none RX12)  {x1_ : Int32} {s0_ : Int32}  {σ : zSt} {H : Heap} {locs : List Loc} {ls : Array Slot} (J : zJ D cy shR ad lnR s σ H locs) (hl : lv_has ls 2 [(0, .ref (ad 0)), (1, .int x1_)]) (hf : fX12_beginsE_b94 N  x1_ s0_ σ = some o) : W p l e (zRm (1)) s m args below meth c H locs 0 0 (zQv D cy shR ad ts lnR below args s o) (F0 m 94 ls [.int s0_, .ref (ad 0)]) := by
  have hx := X.1
  have hb := X.2.1
  unfold fX12_beginsE_b94 at hf
  obtain ⟨r6, σ7, hc, hf⟩ := obd_some hf
  refine zr_callv (As := [.int s0_]) (rest := []) X J 0 ho_R_X12.1 ho_R_X12.2.1 ho_R_X12.2.2 yy_X12_put mw_methodLink_TinyCModel_424_TinyCModel_put_IV (d := 0) (zR_ok (by omega) (by decide)) hl.1 rfl (Nat.le_of_ble_eq_true rfl) (tX12_put  hc) dX12_beginsE_94 (fun H locs J => ?_)
  refine lv_aload_n hx hb dX12_beginsE_97 rfl (lv_at hl 0 rfl) ?_
  refine lv_aload_n hx hb dX12_beginsE_98 rfl (lv_at hl 0 rfl) ?_
  refine gf_X12_65 X J dX12_beginsE_99 ?_
  refine lv_iload_n hx hb dX12_beginsE_102 rfl (lv_at hl 1 rfl) ?_
  obtain ⟨hin, hf⟩ := itx hf
  refine al_X12_X12f43 X J hin dX12_beginsE_103 ?_
  obtain ⟨r8, σ9, hc, hf⟩ := obd_some hf
  refine zr_callv (As := [.int (zA σ7 19 x1_.toNatClampNeg)]) (rest := []) X J 0 ho_R_X12.1 ho_R_X12.2.1 ho_R_X12.2.2 yy_X12_put mw_methodLink_TinyCModel_424_TinyCModel_put_IV (d := 0) (zR_ok (by omega) (by decide)) hl.1 rfl (Nat.le_of_ble_eq_true rfl) (tX12_put  hc) dX12_beginsE_104 (fun H locs J => ?_)
  refine lv_goto hx hb dX12_beginsE_107 rfl ?_
  exact zr_vret X J hf dX12_beginsE_216
set_option maxHeartbeats 4000000 in
theorem tX12_beginsE {a1_ : Int32}  {σ u : zSt} {r : Unit} (hf : fX12_beginsE N a1_ σ = some (r, u)) : zMv l yX12_beginsE cX12_beginsE 2 none (1) D cy shR ad ts lnR [.ref (ad 0), .int a1_] σ u := by
  refine zM_of (by decide) (Nat.le_of_ble_eq_true rfl) (fun p e s m args below meth c ls ha X J hl => ?_)
  have hx := X.1
  have hb := X.2.1
  have hl : lv_has ls 2 [(0, .ref (ad 0)), (1, .int a1_)] := hl
  generalize s.heap = H at J ⊢
  generalize ([] : List Loc) = locs at J ⊢
  show W p l e (zRm (1)) s m args below meth c H locs 0 0 (zQv D cy shR ad ts lnR below args s (r, u)) (F0 m 0 ls [])
  unfold fX12_beginsE at hf
  refine lv_aload_n hx hb dX12_beginsE_0 rfl (lv_at hl 0 rfl) ?_
  refine gf_X12_53 X J dX12_beginsE_1 ?_
  refine lv_iload_n hx hb dX12_beginsE_4 rfl (lv_at hl 1 rfl) ?_
  obtain ⟨hin, hf⟩ := itx hf
  refine al_X12_X12f39 X J hin dX12_beginsE_5 ?_
  refine lv_topi (fun x1 eq => ?_)
  have hf := bnd_eq eq hf
  clear eq
  by_cases h0_ : x1 = (1 : Int32)
  · have hf := itp h0_ hf
    rw [h0_]
    refine lv_tableIn hx hb dX12_beginsE_6 (by decide) (by decide) (tgt := 60) (by rfl) (by decide) ?_
    refine lv_aload_n hx hb dX12_beginsE_60 rfl (lv_at hl 0 rfl) ?_
    refine lv_iconst (v := (1 : Int32)) hx hb dX12_beginsE_61 (by decide) ?_
    obtain ⟨r2, σ3, hc, hf⟩ := obd_some hf
    refine zr_callv (As := [.int (1 : Int32)]) (rest := []) X J 0 ho_R_X12.1 ho_R_X12.2.1 ho_R_X12.2.2 yy_X12_put mw_methodLink_TinyCModel_424_TinyCModel_put_IV (d := 0) (zR_ok (by omega) (by decide)) hl.1 rfl (Nat.le_of_ble_eq_true rfl) (tX12_put  hc) dX12_beginsE_62 (fun H locs J => ?_)
    refine lv_aload_n hx hb dX12_beginsE_65 rfl (lv_at hl 0 rfl) ?_
    refine lv_aload_n hx hb dX12_beginsE_66 rfl (lv_at hl 0 rfl) ?_
    refine gf_X12_65 X J dX12_beginsE_67 ?_
    refine lv_iload_n hx hb dX12_beginsE_70 rfl (lv_at hl 1 rfl) ?_
    obtain ⟨hin, hf⟩ := itx hf
    refine al_X12_X12f43 X J hin dX12_beginsE_71 ?_
    obtain ⟨r4, σ5, hc, hf⟩ := obd_some hf
    refine zr_callv (As := [.int (zA σ3 19 a1_.toNatClampNeg)]) (rest := []) X J 0 ho_R_X12.1 ho_R_X12.2.1 ho_R_X12.2.2 yy_X12_put mw_methodLink_TinyCModel_424_TinyCModel_put_IV (d := 0) (zR_ok (by omega) (by decide)) hl.1 rfl (Nat.le_of_ble_eq_true rfl) (tX12_put  hc) dX12_beginsE_72 (fun H locs J => ?_)
    refine lv_goto hx hb dX12_beginsE_75 rfl ?_
    exact zr_vret X J hf dX12_beginsE_216
  have hf := itn h0_ hf
  by_cases h1_ : x1 = (2 : Int32)
  · have hf := itp h1_ hf
    rw [h1_]
    refine lv_tableIn hx hb dX12_beginsE_6 (by decide) (by decide) (tgt := 78) (by rfl) (by decide) ?_
    refine lv_aload_n hx hb dX12_beginsE_78 rfl (lv_at hl 0 rfl) ?_
    refine lv_aload_n hx hb dX12_beginsE_79 rfl (lv_at hl 0 rfl) ?_
    refine gf_X12_53 X J dX12_beginsE_80 ?_
    refine lv_iload_n hx hb dX12_beginsE_83 rfl (lv_at hl 1 rfl) ?_
    obtain ⟨hin, hf⟩ := itx hf
    refine al_X12_X12f39 X J hin dX12_beginsE_84 ?_
    refine lv_iconst (v := (2 : Int32)) hx hb dX12_beginsE_85 (by decide) ?_
    refine lv_icmp_ne hx hb dX12_beginsE_86 rfl (fun h => ?_) (fun h => ?_)
    · have hf := itn h hf
      refine lv_iconst (v := (4 : Int32)) hx hb dX12_beginsE_93 (by decide) ?_
      exact bX12_beginsE_94 X   J (lv_sub hl [0, 1] rfl) hf
    · have hf := itp h hf
      refine lv_iconst (v := (2 : Int32)) hx hb dX12_beginsE_89 (by decide) ?_
      refine lv_goto hx hb dX12_beginsE_90 rfl ?_
      exact bX12_beginsE_94 X   J (lv_sub hl [0, 1] rfl) hf
  have hf := itn h1_ hf
  by_cases h2_ : x1 = (3 : Int32)
  · have hf := itp h2_ hf
    rw [h2_]
    refine lv_tableIn hx hb dX12_beginsE_6 (by decide) (by decide) (tgt := 78) (by rfl) (by decide) ?_
    refine lv_aload_n hx hb dX12_beginsE_78 rfl (lv_at hl 0 rfl) ?_
    refine lv_aload_n hx hb dX12_beginsE_79 rfl (lv_at hl 0 rfl) ?_
    refine gf_X12_53 X J dX12_beginsE_80 ?_
    refine lv_iload_n hx hb dX12_beginsE_83 rfl (lv_at hl 1 rfl) ?_
    obtain ⟨hin, hf⟩ := itx hf
    refine al_X12_X12f39 X J hin dX12_beginsE_84 ?_
    refine lv_iconst (v := (2 : Int32)) hx hb dX12_beginsE_85 (by decide) ?_
    refine lv_icmp_ne hx hb dX12_beginsE_86 rfl (fun h => ?_) (fun h => ?_)
    · have hf := itn h hf
      refine lv_iconst (v := (4 : Int32)) hx hb dX12_beginsE_93 (by decide) ?_
      exact bX12_beginsE_94 X   J (lv_sub hl [0, 1] rfl) hf
    · have hf := itp h hf
      refine lv_iconst (v := (2 : Int32)) hx hb dX12_beginsE_89 (by decide) ?_
      refine lv_goto hx hb dX12_beginsE_90 rfl ?_
      exact bX12_beginsE_94 X   J (lv_sub hl [0, 1] rfl) hf
  have hf := itn h2_ hf
  by_cases h3_ : x1 = (4 : Int32)
  · have hf := itp h3_ hf
    rw [h3_]
    refine lv_tableIn hx hb dX12_beginsE_6 (by decide) (by decide) (tgt := 199) (by rfl) (by decide) ?_
    refine lv_aload_n hx hb dX12_beginsE_199 rfl (lv_at hl 0 rfl) ?_
    refine lv_iconst (v := (4 : Int32)) hx hb dX12_beginsE_200 (by decide) ?_
    refine lv_iload_n hx hb dX12_beginsE_201 rfl (lv_at hl 1 rfl) ?_
    obtain ⟨r10, σ11, hc, hf⟩ := obd_some hf
    refine zr_callv (As := [.int (4 : Int32), .int a1_]) (rest := []) X J 0 ho_R_X12.1 ho_R_X12.2.1 ho_R_X12.2.2 yy_X12_task mw_methodLink_TinyCModel_433_TinyCModel_task_IIV (d := 0) (zR_ok (by omega) (by decide)) hl.1 rfl (Nat.le_of_ble_eq_true rfl) (tX12_task  hc) dX12_beginsE_202 (fun H locs J => ?_)
    refine lv_aload_n hx hb dX12_beginsE_205 rfl (lv_at hl 0 rfl) ?_
    refine lv_iconst (v := (2 : Int32)) hx hb dX12_beginsE_206 (by decide) ?_
    refine lv_aload_n hx hb dX12_beginsE_207 rfl (lv_at hl 0 rfl) ?_
    refine gf_X12_56 X J dX12_beginsE_208 ?_
    refine lv_iload_n hx hb dX12_beginsE_211 rfl (lv_at hl 1 rfl) ?_
    obtain ⟨hin, hf⟩ := itx hf
    refine al_X12_X12f40 X J hin dX12_beginsE_212 ?_
    obtain ⟨r12, σ13, hc, hf⟩ := obd_some hf
    refine zr_callv (As := [.int (2 : Int32), .int (zA σ11 16 a1_.toNatClampNeg)]) (rest := []) X J 0 ho_R_X12.1 ho_R_X12.2.1 ho_R_X12.2.2 yy_X12_task mw_methodLink_TinyCModel_433_TinyCModel_task_IIV (d := 0) (zR_ok (by omega) (by decide)) hl.1 rfl (Nat.le_of_ble_eq_true rfl) (tX12_task  hc) dX12_beginsE_213 (fun H locs J => ?_)
    exact zr_vret X J hf dX12_beginsE_216
  have hf := itn h3_ hf
  by_cases h4_ : x1 = (5 : Int32)
  · have hf := itp h4_ hf
    rw [h4_]
    refine lv_tableIn hx hb dX12_beginsE_6 (by decide) (by decide) (tgt := 199) (by rfl) (by decide) ?_
    refine lv_aload_n hx hb dX12_beginsE_199 rfl (lv_at hl 0 rfl) ?_
    refine lv_iconst (v := (4 : Int32)) hx hb dX12_beginsE_200 (by decide) ?_
    refine lv_iload_n hx hb dX12_beginsE_201 rfl (lv_at hl 1 rfl) ?_
    obtain ⟨r14, σ15, hc, hf⟩ := obd_some hf
    refine zr_callv (As := [.int (4 : Int32), .int a1_]) (rest := []) X J 0 ho_R_X12.1 ho_R_X12.2.1 ho_R_X12.2.2 yy_X12_task mw_methodLink_TinyCModel_433_TinyCModel_task_IIV (d := 0) (zR_ok (by omega) (by decide)) hl.1 rfl (Nat.le_of_ble_eq_true rfl) (tX12_task  hc) dX12_beginsE_202 (fun H locs J => ?_)
    refine lv_aload_n hx hb dX12_beginsE_205 rfl (lv_at hl 0 rfl) ?_
    refine lv_iconst (v := (2 : Int32)) hx hb dX12_beginsE_206 (by decide) ?_
    refine lv_aload_n hx hb dX12_beginsE_207 rfl (lv_at hl 0 rfl) ?_
    refine gf_X12_56 X J dX12_beginsE_208 ?_
    refine lv_iload_n hx hb dX12_beginsE_211 rfl (lv_at hl 1 rfl) ?_
    obtain ⟨hin, hf⟩ := itx hf
    refine al_X12_X12f40 X J hin dX12_beginsE_212 ?_
    obtain ⟨r16, σ17, hc, hf⟩ := obd_some hf
    refine zr_callv (As := [.int (2 : Int32), .int (zA σ15 16 a1_.toNatClampNeg)]) (rest := []) X J 0 ho_R_X12.1 ho_R_X12.2.1 ho_R_X12.2.2 yy_X12_task mw_methodLink_TinyCModel_433_TinyCModel_task_IIV (d := 0) (zR_ok (by omega) (by decide)) hl.1 rfl (Nat.le_of_ble_eq_true rfl) (tX12_task  hc) dX12_beginsE_213 (fun H locs J => ?_)
    exact zr_vret X J hf dX12_beginsE_216
  have hf := itn h4_ hf
  by_cases h5_ : x1 = (6 : Int32)
  · have hf := itp h5_ hf
    rw [h5_]
    refine lv_tableIn hx hb dX12_beginsE_6 (by decide) (by decide) (tgt := 119) (by rfl) (by decide) ?_
    refine lv_aload_n hx hb dX12_beginsE_119 rfl (lv_at hl 0 rfl) ?_
    refine lv_iconst (v := (4 : Int32)) hx hb dX12_beginsE_120 (by decide) ?_
    refine lv_iload_n hx hb dX12_beginsE_121 rfl (lv_at hl 1 rfl) ?_
    obtain ⟨r18, σ19, hc, hf⟩ := obd_some hf
    refine zr_callv (As := [.int (4 : Int32), .int a1_]) (rest := []) X J 0 ho_R_X12.1 ho_R_X12.2.1 ho_R_X12.2.2 yy_X12_task mw_methodLink_TinyCModel_433_TinyCModel_task_IIV (d := 0) (zR_ok (by omega) (by decide)) hl.1 rfl (Nat.le_of_ble_eq_true rfl) (tX12_task  hc) dX12_beginsE_122 (fun H locs J => ?_)
    refine lv_aload_n hx hb dX12_beginsE_125 rfl (lv_at hl 0 rfl) ?_
    refine lv_iconst (v := (2 : Int32)) hx hb dX12_beginsE_126 (by decide) ?_
    refine lv_aload_n hx hb dX12_beginsE_127 rfl (lv_at hl 0 rfl) ?_
    refine gf_X12_59 X J dX12_beginsE_128 ?_
    refine lv_iload_n hx hb dX12_beginsE_131 rfl (lv_at hl 1 rfl) ?_
    obtain ⟨hin, hf⟩ := itx hf
    refine al_X12_X12f41 X J hin dX12_beginsE_132 ?_
    obtain ⟨r20, σ21, hc, hf⟩ := obd_some hf
    refine zr_callv (As := [.int (2 : Int32), .int (zA σ19 17 a1_.toNatClampNeg)]) (rest := []) X J 0 ho_R_X12.1 ho_R_X12.2.1 ho_R_X12.2.2 yy_X12_task mw_methodLink_TinyCModel_433_TinyCModel_task_IIV (d := 0) (zR_ok (by omega) (by decide)) hl.1 rfl (Nat.le_of_ble_eq_true rfl) (tX12_task  hc) dX12_beginsE_133 (fun H locs J => ?_)
    refine lv_aload_n hx hb dX12_beginsE_136 rfl (lv_at hl 0 rfl) ?_
    refine lv_iconst (v := (2 : Int32)) hx hb dX12_beginsE_137 (by decide) ?_
    refine lv_aload_n hx hb dX12_beginsE_138 rfl (lv_at hl 0 rfl) ?_
    refine gf_X12_56 X J dX12_beginsE_139 ?_
    refine lv_iload_n hx hb dX12_beginsE_142 rfl (lv_at hl 1 rfl) ?_
    obtain ⟨hin, hf⟩ := itx hf
    refine al_X12_X12f40 X J hin dX12_beginsE_143 ?_
    obtain ⟨r22, σ23, hc, hf⟩ := obd_some hf
    refine zr_callv (As := [.int (2 : Int32), .int (zA σ21 16 a1_.toNatClampNeg)]) (rest := []) X J 0 ho_R_X12.1 ho_R_X12.2.1 ho_R_X12.2.2 yy_X12_task mw_methodLink_TinyCModel_433_TinyCModel_task_IIV (d := 0) (zR_ok (by omega) (by decide)) hl.1 rfl (Nat.le_of_ble_eq_true rfl) (tX12_task  hc) dX12_beginsE_144 (fun H locs J => ?_)
    refine lv_goto hx hb dX12_beginsE_147 rfl ?_
    exact zr_vret X J hf dX12_beginsE_216
  have hf := itn h5_ hf
  by_cases h6_ : x1 = (7 : Int32)
  · have hf := itp h6_ hf
    rw [h6_]
    refine lv_tableIn hx hb dX12_beginsE_6 (by decide) (by decide) (tgt := 150) (by rfl) (by decide) ?_
    refine lv_aload_n hx hb dX12_beginsE_150 rfl (lv_at hl 0 rfl) ?_
    refine lv_iconst (v := (5 : Int32)) hx hb dX12_beginsE_151 (by decide) ?_
    refine lv_iload_n hx hb dX12_beginsE_152 rfl (lv_at hl 1 rfl) ?_
    obtain ⟨r24, σ25, hc, hf⟩ := obd_some hf
    refine zr_callv (As := [.int (5 : Int32), .int a1_]) (rest := []) X J 0 ho_R_X12.1 ho_R_X12.2.1 ho_R_X12.2.2 yy_X12_task mw_methodLink_TinyCModel_433_TinyCModel_task_IIV (d := 0) (zR_ok (by omega) (by decide)) hl.1 rfl (Nat.le_of_ble_eq_true rfl) (tX12_task  hc) dX12_beginsE_153 (fun H locs J => ?_)
    refine lv_aload_n hx hb dX12_beginsE_156 rfl (lv_at hl 0 rfl) ?_
    refine lv_iconst (v := (2 : Int32)) hx hb dX12_beginsE_157 (by decide) ?_
    refine lv_aload_n hx hb dX12_beginsE_158 rfl (lv_at hl 0 rfl) ?_
    refine gf_X12_56 X J dX12_beginsE_159 ?_
    refine lv_iload_n hx hb dX12_beginsE_162 rfl (lv_at hl 1 rfl) ?_
    obtain ⟨hin, hf⟩ := itx hf
    refine al_X12_X12f40 X J hin dX12_beginsE_163 ?_
    obtain ⟨r26, σ27, hc, hf⟩ := obd_some hf
    refine zr_callv (As := [.int (2 : Int32), .int (zA σ25 16 a1_.toNatClampNeg)]) (rest := []) X J 0 ho_R_X12.1 ho_R_X12.2.1 ho_R_X12.2.2 yy_X12_task mw_methodLink_TinyCModel_433_TinyCModel_task_IIV (d := 0) (zR_ok (by omega) (by decide)) hl.1 rfl (Nat.le_of_ble_eq_true rfl) (tX12_task  hc) dX12_beginsE_164 (fun H locs J => ?_)
    refine lv_goto hx hb dX12_beginsE_167 rfl ?_
    exact zr_vret X J hf dX12_beginsE_216
  have hf := itn h6_ hf
  by_cases h7_ : x1 = (8 : Int32)
  · have hf := itp h7_ hf
    rw [h7_]
    refine lv_tableIn hx hb dX12_beginsE_6 (by decide) (by decide) (tgt := 150) (by rfl) (by decide) ?_
    refine lv_aload_n hx hb dX12_beginsE_150 rfl (lv_at hl 0 rfl) ?_
    refine lv_iconst (v := (5 : Int32)) hx hb dX12_beginsE_151 (by decide) ?_
    refine lv_iload_n hx hb dX12_beginsE_152 rfl (lv_at hl 1 rfl) ?_
    obtain ⟨r28, σ29, hc, hf⟩ := obd_some hf
    refine zr_callv (As := [.int (5 : Int32), .int a1_]) (rest := []) X J 0 ho_R_X12.1 ho_R_X12.2.1 ho_R_X12.2.2 yy_X12_task mw_methodLink_TinyCModel_433_TinyCModel_task_IIV (d := 0) (zR_ok (by omega) (by decide)) hl.1 rfl (Nat.le_of_ble_eq_true rfl) (tX12_task  hc) dX12_beginsE_153 (fun H locs J => ?_)
    refine lv_aload_n hx hb dX12_beginsE_156 rfl (lv_at hl 0 rfl) ?_
    refine lv_iconst (v := (2 : Int32)) hx hb dX12_beginsE_157 (by decide) ?_
    refine lv_aload_n hx hb dX12_beginsE_158 rfl (lv_at hl 0 rfl) ?_
    refine gf_X12_56 X J dX12_beginsE_159 ?_
    refine lv_iload_n hx hb dX12_beginsE_162 rfl (lv_at hl 1 rfl) ?_
    obtain ⟨hin, hf⟩ := itx hf
    refine al_X12_X12f40 X J hin dX12_beginsE_163 ?_
    obtain ⟨r30, σ31, hc, hf⟩ := obd_some hf
    refine zr_callv (As := [.int (2 : Int32), .int (zA σ29 16 a1_.toNatClampNeg)]) (rest := []) X J 0 ho_R_X12.1 ho_R_X12.2.1 ho_R_X12.2.2 yy_X12_task mw_methodLink_TinyCModel_433_TinyCModel_task_IIV (d := 0) (zR_ok (by omega) (by decide)) hl.1 rfl (Nat.le_of_ble_eq_true rfl) (tX12_task  hc) dX12_beginsE_164 (fun H locs J => ?_)
    refine lv_goto hx hb dX12_beginsE_167 rfl ?_
    exact zr_vret X J hf dX12_beginsE_216
  have hf := itn h7_ hf
  by_cases h8_ : x1 = (9 : Int32)
  · have hf := itp h8_ hf
    rw [h8_]
    refine lv_tableIn hx hb dX12_beginsE_6 (by decide) (by decide) (tgt := 170) (by rfl) (by decide) ?_
    refine lv_aload_n hx hb dX12_beginsE_170 rfl (lv_at hl 0 rfl) ?_
    refine lv_iconst (v := (4 : Int32)) hx hb dX12_beginsE_171 (by decide) ?_
    refine lv_iload_n hx hb dX12_beginsE_172 rfl (lv_at hl 1 rfl) ?_
    obtain ⟨r32, σ33, hc, hf⟩ := obd_some hf
    refine zr_callv (As := [.int (4 : Int32), .int a1_]) (rest := []) X J 0 ho_R_X12.1 ho_R_X12.2.1 ho_R_X12.2.2 yy_X12_task mw_methodLink_TinyCModel_433_TinyCModel_task_IIV (d := 0) (zR_ok (by omega) (by decide)) hl.1 rfl (Nat.le_of_ble_eq_true rfl) (tX12_task  hc) dX12_beginsE_173 (fun H locs J => ?_)
    refine lv_aload_n hx hb dX12_beginsE_176 rfl (lv_at hl 0 rfl) ?_
    refine gf_X12_56 X J dX12_beginsE_177 ?_
    refine lv_iload_n hx hb dX12_beginsE_180 rfl (lv_at hl 1 rfl) ?_
    obtain ⟨hin, hf⟩ := itx hf
    refine al_X12_X12f40 X J hin dX12_beginsE_181 ?_
    refine lv_if_lt hx hb dX12_beginsE_182 rfl (fun h => ?_) (fun h => ?_)
    · have hf := itp h hf
      exact zr_vret X J hf dX12_beginsE_216
    · have hf := itn h hf
      refine lv_aload_n hx hb dX12_beginsE_185 rfl (lv_at hl 0 rfl) ?_
      refine lv_iconst (v := (3 : Int32)) hx hb dX12_beginsE_186 (by decide) ?_
      refine lv_aload_n hx hb dX12_beginsE_187 rfl (lv_at hl 0 rfl) ?_
      refine gf_X12_56 X J dX12_beginsE_188 ?_
      refine lv_iload_n hx hb dX12_beginsE_191 rfl (lv_at hl 1 rfl) ?_
      obtain ⟨hin, hf⟩ := itx hf
      refine al_X12_X12f40 X J hin dX12_beginsE_192 ?_
      obtain ⟨r34, σ35, hc, hf⟩ := obd_some hf
      refine zr_callv (As := [.int (3 : Int32), .int (zA σ33 16 a1_.toNatClampNeg)]) (rest := []) X J 0 ho_R_X12.1 ho_R_X12.2.1 ho_R_X12.2.2 yy_X12_task mw_methodLink_TinyCModel_433_TinyCModel_task_IIV (d := 0) (zR_ok (by omega) (by decide)) hl.1 rfl (Nat.le_of_ble_eq_true rfl) (tX12_task  hc) dX12_beginsE_193 (fun H locs J => ?_)
      refine lv_goto hx hb dX12_beginsE_196 rfl ?_
      exact zr_vret X J hf dX12_beginsE_216
  have hf := itn h8_ hf
  by_cases h9_ : x1 = (10 : Int32)
  · have hf := itp h9_ hf
    rw [h9_]
    refine lv_tableIn hx hb dX12_beginsE_6 (by decide) (by decide) (tgt := 110) (by rfl) (by decide) ?_
    refine lv_aload_n hx hb dX12_beginsE_110 rfl (lv_at hl 0 rfl) ?_
    refine lv_bipush (v := (35 : Int32)) hx hb dX12_beginsE_111 (by decide) ?_
    obtain ⟨r36, σ37, hc, hf⟩ := obd_some hf
    refine zr_callv (As := [.int (35 : Int32)]) (rest := []) X J 0 ho_R_X12.1 ho_R_X12.2.1 ho_R_X12.2.2 yy_X12_put mw_methodLink_TinyCModel_424_TinyCModel_put_IV (d := 0) (zR_ok (by omega) (by decide)) hl.1 rfl (Nat.le_of_ble_eq_true rfl) (tX12_put  hc) dX12_beginsE_113 (fun H locs J => ?_)
    refine lv_goto hx hb dX12_beginsE_116 rfl ?_
    exact zr_vret X J hf dX12_beginsE_216
  have hf := itn h9_ hf
  refine lv_tableOut hx hb dX12_beginsE_6 (tgt := 199) (by have := lv_neT h0_ (a := 1) (by decide); have := lv_neT h1_ (a := 2) (by decide); have := lv_neT h2_ (a := 3) (by decide); have := lv_neT h3_ (a := 4) (by decide); have := lv_neT h4_ (a := 5) (by decide); have := lv_neT h5_ (a := 6) (by decide); have := lv_neT h6_ (a := 7) (by decide); have := lv_neT h7_ (a := 8) (by decide); have := lv_neT h8_ (a := 9) (by decide); have := lv_neT h9_ (a := 10) (by decide); omega) (by decide) ?_
  refine lv_aload_n hx hb dX12_beginsE_199 rfl (lv_at hl 0 rfl) ?_
  refine lv_iconst (v := (4 : Int32)) hx hb dX12_beginsE_200 (by decide) ?_
  refine lv_iload_n hx hb dX12_beginsE_201 rfl (lv_at hl 1 rfl) ?_
  obtain ⟨r38, σ39, hc, hf⟩ := obd_some hf
  refine zr_callv (As := [.int (4 : Int32), .int a1_]) (rest := []) X J 0 ho_R_X12.1 ho_R_X12.2.1 ho_R_X12.2.2 yy_X12_task mw_methodLink_TinyCModel_433_TinyCModel_task_IIV (d := 0) (zR_ok (by omega) (by decide)) hl.1 rfl (Nat.le_of_ble_eq_true rfl) (tX12_task  hc) dX12_beginsE_202 (fun H locs J => ?_)
  refine lv_aload_n hx hb dX12_beginsE_205 rfl (lv_at hl 0 rfl) ?_
  refine lv_iconst (v := (2 : Int32)) hx hb dX12_beginsE_206 (by decide) ?_
  refine lv_aload_n hx hb dX12_beginsE_207 rfl (lv_at hl 0 rfl) ?_
  refine gf_X12_56 X J dX12_beginsE_208 ?_
  refine lv_iload_n hx hb dX12_beginsE_211 rfl (lv_at hl 1 rfl) ?_
  obtain ⟨hin, hf⟩ := itx hf
  refine al_X12_X12f40 X J hin dX12_beginsE_212 ?_
  obtain ⟨r40, σ41, hc, hf⟩ := obd_some hf
  refine zr_callv (As := [.int (2 : Int32), .int (zA σ39 16 a1_.toNatClampNeg)]) (rest := []) X J 0 ho_R_X12.1 ho_R_X12.2.1 ho_R_X12.2.2 yy_X12_task mw_methodLink_TinyCModel_433_TinyCModel_task_IIV (d := 0) (zR_ok (by omega) (by decide)) hl.1 rfl (Nat.le_of_ble_eq_true rfl) (tX12_task  hc) dX12_beginsE_213 (fun H locs J => ?_)
  exact zr_vret X J hf dX12_beginsE_216
set_option maxHeartbeats 4000000 in
theorem tX12_doneS {a1_ : Int32}  {σ u : zSt} {r : Unit} (hf : fX12_doneS N a1_ σ = some (r, u)) : zMv l yX12_doneS cX12_doneS 2 none (1) D cy shR ad ts lnR [.ref (ad 0), .int a1_] σ u := by
  refine zM_of (by decide) (Nat.le_of_ble_eq_true rfl) (fun p e s m args below meth c ls ha X J hl => ?_)
  have hx := X.1
  have hb := X.2.1
  have hl : lv_has ls 2 [(0, .ref (ad 0)), (1, .int a1_)] := hl
  generalize s.heap = H at J ⊢
  generalize ([] : List Loc) = locs at J ⊢
  show W p l e (zRm (1)) s m args below meth c H locs 0 0 (zQv D cy shR ad ts lnR below args s (r, u)) (F0 m 0 ls [])
  unfold fX12_doneS at hf
  refine lv_aload_n hx hb dX12_doneS_0 rfl (lv_at hl 0 rfl) ?_
  refine gf_X12_53 X J dX12_doneS_1 ?_
  refine lv_iload_n hx hb dX12_doneS_4 rfl (lv_at hl 1 rfl) ?_
  obtain ⟨hin, hf⟩ := itx hf
  refine al_X12_X12f39 X J hin dX12_doneS_5 ?_
  refine lv_topi (fun x1 eq => ?_)
  have hf := bnd_eq eq hf
  clear eq
  by_cases h0_ : x1 = (21 : Int32)
  · have hf := itp h0_ hf
    rw [h0_]
    refine lv_tableIn hx hb dX12_doneS_6 (by decide) (by decide) (tgt := 52) (by rfl) (by decide) ?_
    refine lv_aload_n hx hb dX12_doneS_52 rfl (lv_at hl 0 rfl) ?_
    refine lv_iconst (v := (5 : Int32)) hx hb dX12_doneS_53 (by decide) ?_
    obtain ⟨r2, σ3, hc, hf⟩ := obd_some hf
    refine zr_callv (As := [.int (5 : Int32)]) (rest := []) X J 0 ho_R_X12.1 ho_R_X12.2.1 ho_R_X12.2.2 yy_X12_put mw_methodLink_TinyCModel_424_TinyCModel_put_IV (d := 0) (zR_ok (by omega) (by decide)) hl.1 rfl (Nat.le_of_ble_eq_true rfl) (tX12_put  hc) dX12_doneS_54 (fun H locs J => ?_)
    refine lv_aload_n hx hb dX12_doneS_57 rfl (lv_at hl 0 rfl) ?_
    refine lv_aload_n hx hb dX12_doneS_58 rfl (lv_at hl 0 rfl) ?_
    refine gf_X12_65 X J dX12_doneS_59 ?_
    refine lv_iload_n hx hb dX12_doneS_62 rfl (lv_at hl 1 rfl) ?_
    obtain ⟨hin, hf⟩ := itx hf
    refine al_X12_X12f43 X J hin dX12_doneS_63 ?_
    obtain ⟨r4, σ5, hc, hf⟩ := obd_some hf
    refine zr_callv (As := [.int (zA σ3 19 a1_.toNatClampNeg)]) (rest := []) X J 0 ho_R_X12.1 ho_R_X12.2.1 ho_R_X12.2.2 yy_X12_put mw_methodLink_TinyCModel_424_TinyCModel_put_IV (d := 0) (zR_ok (by omega) (by decide)) hl.1 rfl (Nat.le_of_ble_eq_true rfl) (tX12_put  hc) dX12_doneS_64 (fun H locs J => ?_)
    refine lv_goto hx hb dX12_doneS_67 rfl ?_
    exact zr_vret X J hf dX12_doneS_154
  have hf := itn h0_ hf
  by_cases h1_ : x1 = (22 : Int32)
  · have hf := itp h1_ hf
    rw [h1_]
    refine lv_tableIn hx hb dX12_doneS_6 (by decide) (by decide) (tgt := 148) (by rfl) (by decide) ?_
    refine lv_aload_n hx hb dX12_doneS_148 rfl (lv_at hl 0 rfl) ?_
    refine lv_bipush (v := (36 : Int32)) hx hb dX12_doneS_149 (by decide) ?_
    obtain ⟨r6, σ7, hc, hf⟩ := obd_some hf
    refine zr_callv (As := [.int (36 : Int32)]) (rest := []) X J 0 ho_R_X12.1 ho_R_X12.2.1 ho_R_X12.2.2 yy_X12_put mw_methodLink_TinyCModel_424_TinyCModel_put_IV (d := 0) (zR_ok (by omega) (by decide)) hl.1 rfl (Nat.le_of_ble_eq_true rfl) (tX12_put  hc) dX12_doneS_151 (fun H locs J => ?_)
    exact zr_vret X J hf dX12_doneS_154
  have hf := itn h1_ hf
  by_cases h2_ : x1 = (23 : Int32)
  · have hf := itp h2_ hf
    rw [h2_]
    refine lv_tableIn hx hb dX12_doneS_6 (by decide) (by decide) (tgt := 148) (by rfl) (by decide) ?_
    refine lv_aload_n hx hb dX12_doneS_148 rfl (lv_at hl 0 rfl) ?_
    refine lv_bipush (v := (36 : Int32)) hx hb dX12_doneS_149 (by decide) ?_
    obtain ⟨r8, σ9, hc, hf⟩ := obd_some hf
    refine zr_callv (As := [.int (36 : Int32)]) (rest := []) X J 0 ho_R_X12.1 ho_R_X12.2.1 ho_R_X12.2.2 yy_X12_put mw_methodLink_TinyCModel_424_TinyCModel_put_IV (d := 0) (zR_ok (by omega) (by decide)) hl.1 rfl (Nat.le_of_ble_eq_true rfl) (tX12_put  hc) dX12_doneS_151 (fun H locs J => ?_)
    exact zr_vret X J hf dX12_doneS_154
  have hf := itn h2_ hf
  by_cases h3_ : x1 = (24 : Int32)
  · have hf := itp h3_ hf
    rw [h3_]
    refine lv_tableIn hx hb dX12_doneS_6 (by decide) (by decide) (tgt := 88) (by rfl) (by decide) ?_
    refine lv_aload_n hx hb dX12_doneS_88 rfl (lv_at hl 0 rfl) ?_
    refine lv_bipush (v := (33 : Int32)) hx hb dX12_doneS_89 (by decide) ?_
    obtain ⟨r10, σ11, hc, hf⟩ := obd_some hf
    refine zr_callv (As := [.int (33 : Int32)]) (rest := []) X J 0 ho_R_X12.1 ho_R_X12.2.1 ho_R_X12.2.2 yy_X12_put mw_methodLink_TinyCModel_424_TinyCModel_put_IV (d := 0) (zR_ok (by omega) (by decide)) hl.1 rfl (Nat.le_of_ble_eq_true rfl) (tX12_put  hc) dX12_doneS_91 (fun H locs J => ?_)
    refine lv_aload_n hx hb dX12_doneS_94 rfl (lv_at hl 0 rfl) ?_
    refine lv_aload_n hx hb dX12_doneS_95 rfl (lv_at hl 0 rfl) ?_
    refine gf_X12_38 X J dX12_doneS_96 ?_
    refine lv_aload_n hx hb dX12_doneS_99 rfl (lv_at hl 0 rfl) ?_
    refine gf_X12_312 X J dX12_doneS_100 ?_
    obtain ⟨hin, hf⟩ := itx hf
    refine al_X12_X12f26 X J hin dX12_doneS_103 ?_
    obtain ⟨r12, σ13, hc, hf⟩ := obd_some hf
    refine zr_callv (As := [.int (zA σ11 10 (zI σ11 0 35).toNatClampNeg)]) (rest := []) X J 0 ho_R_X12.1 ho_R_X12.2.1 ho_R_X12.2.2 yy_X12_put mw_methodLink_TinyCModel_424_TinyCModel_put_IV (d := 0) (zR_ok (by omega) (by decide)) hl.1 rfl (Nat.le_of_ble_eq_true rfl) (tX12_put  hc) dX12_doneS_104 (fun H locs J => ?_)
    refine lv_goto hx hb dX12_doneS_107 rfl ?_
    exact zr_vret X J hf dX12_doneS_154
  have hf := itn h3_ hf
  by_cases h4_ : x1 = (25 : Int32)
  · have hf := itp h4_ hf
    rw [h4_]
    refine lv_tableIn hx hb dX12_doneS_6 (by decide) (by decide) (tgt := 110) (by rfl) (by decide) ?_
    refine lv_aload_n hx hb dX12_doneS_110 rfl (lv_at hl 0 rfl) ?_
    refine lv_bipush (v := (34 : Int32)) hx hb dX12_doneS_111 (by decide) ?_
    obtain ⟨r14, σ15, hc, hf⟩ := obd_some hf
    refine zr_callv (As := [.int (34 : Int32)]) (rest := []) X J 0 ho_R_X12.1 ho_R_X12.2.1 ho_R_X12.2.2 yy_X12_put mw_methodLink_TinyCModel_424_TinyCModel_put_IV (d := 0) (zR_ok (by omega) (by decide)) hl.1 rfl (Nat.le_of_ble_eq_true rfl) (tX12_put  hc) dX12_doneS_113 (fun H locs J => ?_)
    refine lv_goto hx hb dX12_doneS_116 rfl ?_
    exact zr_vret X J hf dX12_doneS_154
  have hf := itn h4_ hf
  by_cases h5_ : x1 = (26 : Int32)
  · have hf := itp h5_ hf
    rw [h5_]
    refine lv_tableIn hx hb dX12_doneS_6 (by decide) (by decide) (tgt := 70) (by rfl) (by decide) ?_
    refine lv_aload_n hx hb dX12_doneS_70 rfl (lv_at hl 0 rfl) ?_
    refine lv_iconst (v := (3 : Int32)) hx hb dX12_doneS_71 (by decide) ?_
    obtain ⟨r16, σ17, hc, hf⟩ := obd_some hf
    refine zr_callv (As := [.int (3 : Int32)]) (rest := []) X J 0 ho_R_X12.1 ho_R_X12.2.1 ho_R_X12.2.2 yy_X12_put mw_methodLink_TinyCModel_424_TinyCModel_put_IV (d := 0) (zR_ok (by omega) (by decide)) hl.1 rfl (Nat.le_of_ble_eq_true rfl) (tX12_put  hc) dX12_doneS_72 (fun H locs J => ?_)
    refine lv_aload_n hx hb dX12_doneS_75 rfl (lv_at hl 0 rfl) ?_
    refine lv_aload_n hx hb dX12_doneS_76 rfl (lv_at hl 0 rfl) ?_
    refine gf_X12_65 X J dX12_doneS_77 ?_
    refine lv_iload_n hx hb dX12_doneS_80 rfl (lv_at hl 1 rfl) ?_
    obtain ⟨hin, hf⟩ := itx hf
    refine al_X12_X12f43 X J hin dX12_doneS_81 ?_
    obtain ⟨r18, σ19, hc, hf⟩ := obd_some hf
    refine zr_callv (As := [.int (zA σ17 19 a1_.toNatClampNeg)]) (rest := []) X J 0 ho_R_X12.1 ho_R_X12.2.1 ho_R_X12.2.2 yy_X12_put mw_methodLink_TinyCModel_424_TinyCModel_put_IV (d := 0) (zR_ok (by omega) (by decide)) hl.1 rfl (Nat.le_of_ble_eq_true rfl) (tX12_put  hc) dX12_doneS_82 (fun H locs J => ?_)
    refine lv_goto hx hb dX12_doneS_85 rfl ?_
    exact zr_vret X J hf dX12_doneS_154
  have hf := itn h5_ hf
  by_cases h6_ : x1 = (27 : Int32)
  · have hf := itp h6_ hf
    rw [h6_]
    refine lv_tableIn hx hb dX12_doneS_6 (by decide) (by decide) (tgt := 52) (by rfl) (by decide) ?_
    refine lv_aload_n hx hb dX12_doneS_52 rfl (lv_at hl 0 rfl) ?_
    refine lv_iconst (v := (5 : Int32)) hx hb dX12_doneS_53 (by decide) ?_
    obtain ⟨r20, σ21, hc, hf⟩ := obd_some hf
    refine zr_callv (As := [.int (5 : Int32)]) (rest := []) X J 0 ho_R_X12.1 ho_R_X12.2.1 ho_R_X12.2.2 yy_X12_put mw_methodLink_TinyCModel_424_TinyCModel_put_IV (d := 0) (zR_ok (by omega) (by decide)) hl.1 rfl (Nat.le_of_ble_eq_true rfl) (tX12_put  hc) dX12_doneS_54 (fun H locs J => ?_)
    refine lv_aload_n hx hb dX12_doneS_57 rfl (lv_at hl 0 rfl) ?_
    refine lv_aload_n hx hb dX12_doneS_58 rfl (lv_at hl 0 rfl) ?_
    refine gf_X12_65 X J dX12_doneS_59 ?_
    refine lv_iload_n hx hb dX12_doneS_62 rfl (lv_at hl 1 rfl) ?_
    obtain ⟨hin, hf⟩ := itx hf
    refine al_X12_X12f43 X J hin dX12_doneS_63 ?_
    obtain ⟨r22, σ23, hc, hf⟩ := obd_some hf
    refine zr_callv (As := [.int (zA σ21 19 a1_.toNatClampNeg)]) (rest := []) X J 0 ho_R_X12.1 ho_R_X12.2.1 ho_R_X12.2.2 yy_X12_put mw_methodLink_TinyCModel_424_TinyCModel_put_IV (d := 0) (zR_ok (by omega) (by decide)) hl.1 rfl (Nat.le_of_ble_eq_true rfl) (tX12_put  hc) dX12_doneS_64 (fun H locs J => ?_)
    refine lv_goto hx hb dX12_doneS_67 rfl ?_
    exact zr_vret X J hf dX12_doneS_154
  have hf := itn h6_ hf
  by_cases h7_ : x1 = (28 : Int32)
  · have hf := itp h7_ hf
    rw [h7_]
    refine lv_tableIn hx hb dX12_doneS_6 (by decide) (by decide) (tgt := 119) (by rfl) (by decide) ?_
    refine lv_aload_n hx hb dX12_doneS_119 rfl (lv_at hl 0 rfl) ?_
    refine lv_bipush (v := (7 : Int32)) hx hb dX12_doneS_120 (by decide) ?_
    obtain ⟨r24, σ25, hc, hf⟩ := obd_some hf
    refine zr_callv (As := [.int (7 : Int32)]) (rest := []) X J 0 ho_R_X12.1 ho_R_X12.2.1 ho_R_X12.2.2 yy_X12_put mw_methodLink_TinyCModel_424_TinyCModel_put_IV (d := 0) (zR_ok (by omega) (by decide)) hl.1 rfl (Nat.le_of_ble_eq_true rfl) (tX12_put  hc) dX12_doneS_122 (fun H locs J => ?_)
    refine lv_aload_n hx hb dX12_doneS_125 rfl (lv_at hl 0 rfl) ?_
    refine lv_aload_n hx hb dX12_doneS_126 rfl (lv_at hl 0 rfl) ?_
    refine gf_X12_65 X J dX12_doneS_127 ?_
    refine lv_iload_n hx hb dX12_doneS_130 rfl (lv_at hl 1 rfl) ?_
    obtain ⟨hin, hf⟩ := itx hf
    refine al_X12_X12f43 X J hin dX12_doneS_131 ?_
    obtain ⟨r26, σ27, hc, hf⟩ := obd_some hf
    refine zr_callv (As := [.int (zA σ25 19 a1_.toNatClampNeg)]) (rest := []) X J 0 ho_R_X12.1 ho_R_X12.2.1 ho_R_X12.2.2 yy_X12_put mw_methodLink_TinyCModel_424_TinyCModel_put_IV (d := 0) (zR_ok (by omega) (by decide)) hl.1 rfl (Nat.le_of_ble_eq_true rfl) (tX12_put  hc) dX12_doneS_132 (fun H locs J => ?_)
    refine lv_aload_n hx hb dX12_doneS_135 rfl (lv_at hl 0 rfl) ?_
    refine lv_aload_n hx hb dX12_doneS_136 rfl (lv_at hl 0 rfl) ?_
    refine gf_X12_68 X J dX12_doneS_137 ?_
    refine lv_iload_n hx hb dX12_doneS_140 rfl (lv_at hl 1 rfl) ?_
    obtain ⟨hin, hf⟩ := itx hf
    refine al_X12_X12f44 X J hin dX12_doneS_141 ?_
    obtain ⟨r28, σ29, hc, hf⟩ := obd_some hf
    refine zr_callv (As := [.int (zA σ27 20 a1_.toNatClampNeg)]) (rest := []) X J 0 ho_R_X12.1 ho_R_X12.2.1 ho_R_X12.2.2 yy_X12_put mw_methodLink_TinyCModel_424_TinyCModel_put_IV (d := 0) (zR_ok (by omega) (by decide)) hl.1 rfl (Nat.le_of_ble_eq_true rfl) (tX12_put  hc) dX12_doneS_142 (fun H locs J => ?_)
    refine lv_goto hx hb dX12_doneS_145 rfl ?_
    exact zr_vret X J hf dX12_doneS_154
  have hf := itn h7_ hf
  refine lv_tableOut hx hb dX12_doneS_6 (tgt := 148) (by have := lv_neT h0_ (a := 21) (by decide); have := lv_neT h1_ (a := 22) (by decide); have := lv_neT h2_ (a := 23) (by decide); have := lv_neT h3_ (a := 24) (by decide); have := lv_neT h4_ (a := 25) (by decide); have := lv_neT h5_ (a := 26) (by decide); have := lv_neT h6_ (a := 27) (by decide); have := lv_neT h7_ (a := 28) (by decide); omega) (by decide) ?_
  refine lv_aload_n hx hb dX12_doneS_148 rfl (lv_at hl 0 rfl) ?_
  refine lv_bipush (v := (36 : Int32)) hx hb dX12_doneS_149 (by decide) ?_
  obtain ⟨r30, σ31, hc, hf⟩ := obd_some hf
  refine zr_callv (As := [.int (36 : Int32)]) (rest := []) X J 0 ho_R_X12.1 ho_R_X12.2.1 ho_R_X12.2.2 yy_X12_put mw_methodLink_TinyCModel_424_TinyCModel_put_IV (d := 0) (zR_ok (by omega) (by decide)) hl.1 rfl (Nat.le_of_ble_eq_true rfl) (tX12_put  hc) dX12_doneS_151 (fun H locs J => ?_)
  exact zr_vret X J hf dX12_doneS_154
set_option maxHeartbeats 4000000 in
theorem tX12_jump {a1_ : Int32}  {σ u : zSt} {r : Int32} (hf : fX12_jump N a1_ σ = some (r, u)) : zMi l yX12_jump cX12_jump 2 (some .int) (1) D cy shR ad ts lnR [.ref (ad 0), .int a1_] σ r u := by
  refine zM_of (by decide) (Nat.le_of_ble_eq_true rfl) (fun p e s m args below meth c ls ha X J hl => ?_)
  have hx := X.1
  have hb := X.2.1
  have hl : lv_has ls 2 [(0, .ref (ad 0)), (1, .int a1_)] := hl
  generalize s.heap = H at J ⊢
  generalize ([] : List Loc) = locs at J ⊢
  show W p l e (zRm (1)) s m args below meth c H locs 0 0 (zQi D cy shR ad ts lnR below args s (r, u)) (F0 m 0 ls [])
  unfold fX12_jump at hf
  refine lv_aload_n hx hb dX12_jump_0 rfl (lv_at hl 0 rfl) ?_
  refine lv_iload_n hx hb dX12_jump_1 rfl (lv_at hl 1 rfl) ?_
  obtain ⟨r1, σ2, hc, hf⟩ := obd_some hf
  refine zr_callv (As := [.int a1_]) (rest := []) X J 0 ho_R_X12.1 ho_R_X12.2.1 ho_R_X12.2.2 yy_X12_put mw_methodLink_TinyCModel_424_TinyCModel_put_IV (d := 0) (zR_ok (by omega) (by decide)) hl.1 rfl (Nat.le_of_ble_eq_true rfl) (tX12_put  hc) dX12_jump_2 (fun H locs J => ?_)
  refine lv_aload_n hx hb dX12_jump_5 rfl (lv_at hl 0 rfl) ?_
  refine lv_iconst (v := (0 : Int32)) hx hb dX12_jump_6 (by decide) ?_
  obtain ⟨r3, σ4, hc, hf⟩ := obd_some hf
  refine zr_callv (As := [.int (0 : Int32)]) (rest := []) X J 0 ho_R_X12.1 ho_R_X12.2.1 ho_R_X12.2.2 yy_X12_put mw_methodLink_TinyCModel_424_TinyCModel_put_IV (d := 0) (zR_ok (by omega) (by decide)) hl.1 rfl (Nat.le_of_ble_eq_true rfl) (tX12_put  hc) dX12_jump_7 (fun H locs J => ?_)
  refine lv_aload_n hx hb dX12_jump_10 rfl (lv_at hl 0 rfl) ?_
  refine gf_X12_421 X J dX12_jump_11 ?_
  refine lv_iconst (v := (1 : Int32)) hx hb dX12_jump_14 (by decide) ?_
  refine lv_isub hx hb dX12_jump_15 ?_
  exact zr_iret X J hf dX12_jump_16
set_option maxHeartbeats 4000000 in
theorem tX12_land {a1_ : Int32}  {σ u : zSt} {r : Unit} (hf : fX12_land N a1_ σ = some (r, u)) : zMv l yX12_land cX12_land 2 none (0) D cy shR ad ts lnR [.ref (ad 0), .int a1_] σ u := by
  refine zM_of (by decide) (Nat.le_of_ble_eq_true rfl) (fun p e s m args below meth c ls ha X J hl => ?_)
  have hx := X.1
  have hb := X.2.1
  have hl : lv_has ls 2 [(0, .ref (ad 0)), (1, .int a1_)] := hl
  generalize s.heap = H at J ⊢
  generalize ([] : List Loc) = locs at J ⊢
  show W p l e (zRm (0)) s m args below meth c H locs 0 0 (zQv D cy shR ad ts lnR below args s (r, u)) (F0 m 0 ls [])
  unfold fX12_land at hf
  refine lv_iload_n hx hb dX12_land_0 rfl (lv_at hl 1 rfl) ?_
  refine lv_sipush (v := (30000 : Int32)) hx hb dX12_land_1 (by decide) ?_
  refine lv_icmp_ge hx hb dX12_land_4 rfl (fun h => ?_) (fun h => ?_)
  · have hf := itp h hf
    exact zr_vret X J hf dX12_land_17
  · have hf := itn h hf
    refine lv_aload_n hx hb dX12_land_7 rfl (lv_at hl 0 rfl) ?_
    refine gf_X12_111 X J dX12_land_8 ?_
    refine lv_iload_n hx hb dX12_land_11 rfl (lv_at hl 1 rfl) ?_
    refine lv_aload_n hx hb dX12_land_12 rfl (lv_at hl 0 rfl) ?_
    refine gf_X12_421 X J dX12_land_13 ?_
    obtain ⟨hin, hf⟩ := itx hf
    refine as_X12_X12f60 X J hin dX12_land_16 (fun σ1 H locs eq J => ?_)
    have hf := bnd_eq eq hf
    clear eq
    exact zr_vret X J hf dX12_land_17
set_option maxHeartbeats 4000000 in
theorem bX12_goesOnS_164 {o : Unit × zSt} (X : zX p s m args meth c D cy shR ad ts cX12_goesOnS 3 none RX12)  {x2_ : Int32}  {σ : zSt} {H : Heap} {locs : List Loc} {ls : Array Slot} (J : zJ D cy shR ad lnR s σ H locs) (hl : lv_has ls 3 [(0, .ref (ad 0)), (2, .int x2_)]) (hf : fX12_goesOnS_b164 N  x2_ σ = some o) : W p l e (zRm (2)) s m args below meth c H locs 0 0 (zQv D cy shR ad ts lnR below args s o) (F0 m 164 ls []) := by
  have hx := X.1
  have hb := X.2.1
  unfold fX12_goesOnS_b164 at hf
  refine lv_aload_n hx hb dX12_goesOnS_164 rfl (lv_at hl 0 rfl) ?_
  refine lv_aload_n hx hb dX12_goesOnS_165 rfl (lv_at hl 0 rfl) ?_
  refine gf_X12_126 X J dX12_goesOnS_166 ?_
  refine lv_iload_n hx hb dX12_goesOnS_169 rfl (lv_at hl 1 rfl) ?_
  obtain ⟨hin, hf⟩ := itx hf
  refine al_X12_X12f67 X J hin dX12_goesOnS_170 ?_
  obtain ⟨r1, σ2, hc, hf⟩ := obd_some hf
  refine zr_callv (As := [.int (zA σ 39 x2_.toNatClampNeg)]) (rest := []) X J 0 ho_R_X12.1 ho_R_X12.2.1 ho_R_X12.2.2 yy_X12_land mw_methodLink_TinyCModel_454_TinyCModel_land_IV (d := 0) (zR_ok (by omega) (by decide)) hl.1 rfl (Nat.le_of_ble_eq_true rfl) (tX12_land  hc) dX12_goesOnS_171 (fun H locs J => ?_)
  exact zr_vret X J hf dX12_goesOnS_174
set_option maxHeartbeats 4000000 in
theorem bX12_goesOnS_58 {o : Unit × zSt} (X : zX p s m args meth c D cy shR ad ts cX12_goesOnS 3 none RX12)  {x2_ : Int32} {s0_ : Int32}  {σ : zSt} {H : Heap} {locs : List Loc} {ls : Array Slot} (J : zJ D cy shR ad lnR s σ H locs) (hl : lv_has ls 3 [(0, .ref (ad 0)), (2, .int x2_)]) (hf : fX12_goesOnS_b58 N  x2_ s0_ σ = some o) : W p l e (zRm (2)) s m args below meth c H locs 0 0 (zQv D cy shR ad ts lnR below args s o) (F0 m 58 ls [.int s0_, .ref (ad 0)]) := by
  have hx := X.1
  have hb := X.2.1
  unfold fX12_goesOnS_b58 at hf
  refine lv_iload_n hx hb dX12_goesOnS_58 rfl (lv_at hl 1 rfl) ?_
  obtain ⟨r20, σ21, hc, hf⟩ := obd_some hf
  refine zr_callv (As := [.int s0_, .int x2_]) (rest := []) X J 0 ho_R_X12.1 ho_R_X12.2.1 ho_R_X12.2.2 yy_X12_task mw_methodLink_TinyCModel_433_TinyCModel_task_IIV (d := 0) (zR_ok (by omega) (by decide)) hl.1 rfl (Nat.le_of_ble_eq_true rfl) (tX12_task  hc) dX12_goesOnS_59 (fun H locs J => ?_)
  refine lv_aload_n hx hb dX12_goesOnS_62 rfl (lv_at hl 0 rfl) ?_
  refine lv_iconst (v := (0 : Int32)) hx hb dX12_goesOnS_63 (by decide) ?_
  refine lv_aload_n hx hb dX12_goesOnS_64 rfl (lv_at hl 0 rfl) ?_
  refine gf_X12_59 X J dX12_goesOnS_65 ?_
  refine lv_iload_n hx hb dX12_goesOnS_68 rfl (lv_at hl 1 rfl) ?_
  obtain ⟨hin, hf⟩ := itx hf
  refine al_X12_X12f41 X J hin dX12_goesOnS_69 ?_
  obtain ⟨r22, σ23, hc, hf⟩ := obd_some hf
  refine zr_callv (As := [.int (0 : Int32), .int (zA σ21 17 x2_.toNatClampNeg)]) (rest := []) X J 0 ho_R_X12.1 ho_R_X12.2.1 ho_R_X12.2.2 yy_X12_task mw_methodLink_TinyCModel_433_TinyCModel_task_IIV (d := 0) (zR_ok (by omega) (by decide)) hl.1 rfl (Nat.le_of_ble_eq_true rfl) (tX12_task  hc) dX12_goesOnS_70 (fun H locs J => ?_)
  refine lv_goto hx hb dX12_goesOnS_73 rfl ?_
  exact zr_vret X J hf dX12_goesOnS_174
set_option maxHeartbeats 4000000 in
theorem bX12_goesOnS_51 {o : Unit × zSt} (X : zX p s m args meth c D cy shR ad ts cX12_goesOnS 3 none RX12)  {x2_ : Int32}  {σ : zSt} {H : Heap} {locs : List Loc} {ls : Array Slot} (J : zJ D cy shR ad lnR s σ H locs) (hl : lv_has ls 3 [(0, .ref (ad 0)), (2, .int x2_)]) (hf : fX12_goesOnS_b51 N  x2_ σ = some o) : W p l e (zRm (2)) s m args below meth c H locs 0 0 (zQv D cy shR ad ts lnR below args s o) (F0 m 51 ls [.ref (ad 0)]) := by
  have hx := X.1
  have hb := X.2.1
  unfold fX12_goesOnS_b51 at hf
  refine lv_bipush (v := (7 : Int32)) hx hb dX12_goesOnS_51 (by decide) ?_
  refine lv_goto hx hb dX12_goesOnS_53 rfl ?_
  exact bX12_goesOnS_58 X   J (lv_sub hl [0, 1] rfl) hf
set_option maxHeartbeats 4000000 in
theorem tX12_goesOnS {a1_ : Int32} {a2_ : Int32}  {σ u : zSt} {r : Unit} (hf : fX12_goesOnS N a1_ a2_ σ = some (r, u)) : zMv l yX12_goesOnS cX12_goesOnS 3 none (2) D cy shR ad ts lnR [.ref (ad 0), .int a1_, .int a2_] σ u := by
  refine zM_of (by decide) (Nat.le_of_ble_eq_true rfl) (fun p e s m args below meth c ls ha X J hl => ?_)
  have hx := X.1
  have hb := X.2.1
  have hl : lv_has ls 3 [(0, .ref (ad 0)), (1, .int a1_), (2, .int a2_)] := hl
  generalize s.heap = H at J ⊢
  generalize ([] : List Loc) = locs at J ⊢
  show W p l e (zRm (2)) s m args below meth c H locs 0 0 (zQv D cy shR ad ts lnR below args s (r, u)) (F0 m 0 ls [])
  unfold fX12_goesOnS at hf
  refine lv_iload_n hx hb dX12_goesOnS_0 rfl (lv_at hl 1 rfl) ?_
  refine lv_iconst (v := (4 : Int32)) hx hb dX12_goesOnS_1 (by decide) ?_
  refine lv_icmp_ne hx hb dX12_goesOnS_2 rfl (fun h => ?_) (fun h => ?_)
  · have hf := itn h hf
    refine lv_iload_n hx hb dX12_goesOnS_13 rfl (lv_at hl 1 rfl) ?_
    refine lv_iconst (v := (5 : Int32)) hx hb dX12_goesOnS_14 (by decide) ?_
    refine lv_icmp_ne hx hb dX12_goesOnS_15 rfl (fun h => ?_) (fun h => ?_)
    · have hf := itn h hf
      refine lv_iload_n hx hb dX12_goesOnS_76 rfl (lv_at hl 1 rfl) ?_
      refine lv_bipush (v := (6 : Int32)) hx hb dX12_goesOnS_77 (by decide) ?_
      refine lv_icmp_ne hx hb dX12_goesOnS_79 rfl (fun h => ?_) (fun h => ?_)
      · have hf := itn h hf
        refine lv_aload_n hx hb dX12_goesOnS_137 rfl (lv_at hl 0 rfl) ?_
        refine gf_X12_53 X J dX12_goesOnS_138 ?_
        refine lv_iload_n hx hb dX12_goesOnS_141 rfl (lv_at hl 2 rfl) ?_
        obtain ⟨hin, hf⟩ := itx hf
        refine al_X12_X12f39 X J hin dX12_goesOnS_142 ?_
        refine lv_bipush (v := (23 : Int32)) hx hb dX12_goesOnS_143 (by decide) ?_
        refine lv_icmp_ne hx hb dX12_goesOnS_145 rfl (fun h => ?_) (fun h => ?_)
        · have hf := itn h hf
          exact bX12_goesOnS_164 X   J (lv_sub hl [0, 2] rfl) hf
        · have hf := itp h hf
          refine lv_aload_n hx hb dX12_goesOnS_148 rfl (lv_at hl 0 rfl) ?_
          refine lv_bipush (v := (30 : Int32)) hx hb dX12_goesOnS_149 (by decide) ?_
          obtain ⟨r3, σ4, hc, hf⟩ := obd_some hf
          refine zr_callv (As := [.int (30 : Int32)]) (rest := []) X J 0 ho_R_X12.1 ho_R_X12.2.1 ho_R_X12.2.2 yy_X12_put mw_methodLink_TinyCModel_424_TinyCModel_put_IV (d := 0) (zR_ok (by omega) (by decide)) hl.1 rfl (Nat.le_of_ble_eq_true rfl) (tX12_put  hc) dX12_goesOnS_151 (fun H locs J => ?_)
          refine lv_aload_n hx hb dX12_goesOnS_154 rfl (lv_at hl 0 rfl) ?_
          refine lv_aload_n hx hb dX12_goesOnS_155 rfl (lv_at hl 0 rfl) ?_
          refine gf_X12_123 X J dX12_goesOnS_156 ?_
          refine lv_iload_n hx hb dX12_goesOnS_159 rfl (lv_at hl 2 rfl) ?_
          obtain ⟨hin, hf⟩ := itx hf
          refine al_X12_X12f66 X J hin dX12_goesOnS_160 ?_
          obtain ⟨r5, σ6, hc, hf⟩ := obd_some hf
          refine zr_callv (As := [.int (zA σ4 38 a2_.toNatClampNeg)]) (rest := []) X J 0 ho_R_X12.1 ho_R_X12.2.1 ho_R_X12.2.2 yy_X12_put mw_methodLink_TinyCModel_424_TinyCModel_put_IV (d := 0) (zR_ok (by omega) (by decide)) hl.1 rfl (Nat.le_of_ble_eq_true rfl) (tX12_put  hc) dX12_goesOnS_161 (fun H locs J => ?_)
          exact bX12_goesOnS_164 X   J (lv_sub hl [0, 2] rfl) hf
      · have hf := itp h hf
        refine lv_aload_n hx hb dX12_goesOnS_82 rfl (lv_at hl 0 rfl) ?_
        refine gf_X12_129 X J dX12_goesOnS_83 ?_
        refine lv_iload_n hx hb dX12_goesOnS_86 rfl (lv_at hl 2 rfl) ?_
        refine lv_aload_n hx hb dX12_goesOnS_87 rfl (lv_at hl 0 rfl) ?_
        refine lv_bipush (v := (30 : Int32)) hx hb dX12_goesOnS_88 (by decide) ?_
        obtain ⟨r7, σ8, hc, hf⟩ := obd_some hf
        refine zr_calli (As := [.int (30 : Int32)]) (rest := [.int a2_, .ref (ad 40)]) X J 0 ho_R_X12.1 ho_R_X12.2.1 ho_R_X12.2.2 yy_X12_jump mw_methodLink_TinyCModel_451_TinyCModel_jump_II (d := 1) (zR_ok (by omega) (by decide)) hl.1 rfl (Nat.le_of_ble_eq_true rfl) (tX12_jump  hc) dX12_goesOnS_90 (fun H locs J => ?_)
        obtain ⟨hin, hf⟩ := itx hf
        refine as_X12_X12f68 X J hin dX12_goesOnS_93 (fun σ9 H locs eq J => ?_)
        have hf := bnd_eq eq hf
        clear eq
        refine lv_aload_n hx hb dX12_goesOnS_94 rfl (lv_at hl 0 rfl) ?_
        refine lv_aload_n hx hb dX12_goesOnS_95 rfl (lv_at hl 0 rfl) ?_
        refine gf_X12_126 X J dX12_goesOnS_96 ?_
        refine lv_iload_n hx hb dX12_goesOnS_99 rfl (lv_at hl 2 rfl) ?_
        obtain ⟨hin, hf⟩ := itx hf
        refine al_X12_X12f67 X J hin dX12_goesOnS_100 ?_
        obtain ⟨r10, σ11, hc, hf⟩ := obd_some hf
        refine zr_callv (As := [.int (zA σ9 39 a2_.toNatClampNeg)]) (rest := []) X J 0 ho_R_X12.1 ho_R_X12.2.1 ho_R_X12.2.2 yy_X12_land mw_methodLink_TinyCModel_454_TinyCModel_land_IV (d := 0) (zR_ok (by omega) (by decide)) hl.1 rfl (Nat.le_of_ble_eq_true rfl) (tX12_land  hc) dX12_goesOnS_101 (fun H locs J => ?_)
        refine lv_aload_n hx hb dX12_goesOnS_104 rfl (lv_at hl 0 rfl) ?_
        refine gf_X12_126 X J dX12_goesOnS_105 ?_
        refine lv_iload_n hx hb dX12_goesOnS_108 rfl (lv_at hl 2 rfl) ?_
        refine lv_aload_n hx hb dX12_goesOnS_109 rfl (lv_at hl 0 rfl) ?_
        refine gf_X12_129 X J dX12_goesOnS_110 ?_
        refine lv_iload_n hx hb dX12_goesOnS_113 rfl (lv_at hl 2 rfl) ?_
        obtain ⟨hin, hf⟩ := itx hf
        refine al_X12_X12f68 X J hin dX12_goesOnS_114 ?_
        obtain ⟨hin, hf⟩ := itx hf
        refine as_X12_X12f67 X J hin dX12_goesOnS_115 (fun σ12 H locs eq J => ?_)
        have hf := bnd_eq eq hf
        clear eq
        refine lv_aload_n hx hb dX12_goesOnS_116 rfl (lv_at hl 0 rfl) ?_
        refine lv_bipush (v := (7 : Int32)) hx hb dX12_goesOnS_117 (by decide) ?_
        refine lv_iload_n hx hb dX12_goesOnS_119 rfl (lv_at hl 2 rfl) ?_
        obtain ⟨r13, σ14, hc, hf⟩ := obd_some hf
        refine zr_callv (As := [.int (7 : Int32), .int a2_]) (rest := []) X J 0 ho_R_X12.1 ho_R_X12.2.1 ho_R_X12.2.2 yy_X12_task mw_methodLink_TinyCModel_433_TinyCModel_task_IIV (d := 0) (zR_ok (by omega) (by decide)) hl.1 rfl (Nat.le_of_ble_eq_true rfl) (tX12_task  hc) dX12_goesOnS_120 (fun H locs J => ?_)
        refine lv_aload_n hx hb dX12_goesOnS_123 rfl (lv_at hl 0 rfl) ?_
        refine lv_iconst (v := (0 : Int32)) hx hb dX12_goesOnS_124 (by decide) ?_
        refine lv_aload_n hx hb dX12_goesOnS_125 rfl (lv_at hl 0 rfl) ?_
        refine gf_X12_62 X J dX12_goesOnS_126 ?_
        refine lv_iload_n hx hb dX12_goesOnS_129 rfl (lv_at hl 2 rfl) ?_
        obtain ⟨hin, hf⟩ := itx hf
        refine al_X12_X12f42 X J hin dX12_goesOnS_130 ?_
        obtain ⟨r15, σ16, hc, hf⟩ := obd_some hf
        refine zr_callv (As := [.int (0 : Int32), .int (zA σ14 18 a2_.toNatClampNeg)]) (rest := []) X J 0 ho_R_X12.1 ho_R_X12.2.1 ho_R_X12.2.2 yy_X12_task mw_methodLink_TinyCModel_433_TinyCModel_task_IIV (d := 0) (zR_ok (by omega) (by decide)) hl.1 rfl (Nat.le_of_ble_eq_true rfl) (tX12_task  hc) dX12_goesOnS_131 (fun H locs J => ?_)
        refine lv_goto hx hb dX12_goesOnS_134 rfl ?_
        exact zr_vret X J hf dX12_goesOnS_174
    · have hf := itp h hf
      refine lv_aload_n hx hb dX12_goesOnS_18 rfl (lv_at hl 0 rfl) ?_
      refine gf_X12_126 X J dX12_goesOnS_19 ?_
      refine lv_iload_n hx hb dX12_goesOnS_22 rfl (lv_at hl 2 rfl) ?_
      refine lv_aload_n hx hb dX12_goesOnS_23 rfl (lv_at hl 0 rfl) ?_
      refine lv_bipush (v := (31 : Int32)) hx hb dX12_goesOnS_24 (by decide) ?_
      obtain ⟨r17, σ18, hc, hf⟩ := obd_some hf
      refine zr_calli (As := [.int (31 : Int32)]) (rest := [.int a2_, .ref (ad 39)]) X J 0 ho_R_X12.1 ho_R_X12.2.1 ho_R_X12.2.2 yy_X12_jump mw_methodLink_TinyCModel_451_TinyCModel_jump_II (d := 1) (zR_ok (by omega) (by decide)) hl.1 rfl (Nat.le_of_ble_eq_true rfl) (tX12_jump  hc) dX12_goesOnS_26 (fun H locs J => ?_)
      obtain ⟨hin, hf⟩ := itx hf
      refine as_X12_X12f67 X J hin dX12_goesOnS_29 (fun σ19 H locs eq J => ?_)
      have hf := bnd_eq eq hf
      clear eq
      refine lv_aload_n hx hb dX12_goesOnS_30 rfl (lv_at hl 0 rfl) ?_
      refine lv_aload_n hx hb dX12_goesOnS_31 rfl (lv_at hl 0 rfl) ?_
      refine gf_X12_53 X J dX12_goesOnS_32 ?_
      refine lv_iload_n hx hb dX12_goesOnS_35 rfl (lv_at hl 2 rfl) ?_
      obtain ⟨hin, hf⟩ := itx hf
      refine al_X12_X12f39 X J hin dX12_goesOnS_36 ?_
      refine lv_bipush (v := (23 : Int32)) hx hb dX12_goesOnS_37 (by decide) ?_
      refine lv_icmp_eq hx hb dX12_goesOnS_39 rfl (fun h => ?_) (fun h => ?_)
      · have hf := itp h hf
        exact bX12_goesOnS_51 X   J (lv_sub hl [0, 2] rfl) hf
      · have hf := itn h hf
        refine lv_aload_n hx hb dX12_goesOnS_42 rfl (lv_at hl 0 rfl) ?_
        refine gf_X12_62 X J dX12_goesOnS_43 ?_
        refine lv_iload_n hx hb dX12_goesOnS_46 rfl (lv_at hl 2 rfl) ?_
        obtain ⟨hin, hf⟩ := itx hf
        refine al_X12_X12f42 X J hin dX12_goesOnS_47 ?_
        refine lv_if_ge hx hb dX12_goesOnS_48 rfl (fun h => ?_) (fun h => ?_)
        · have hf := itp h hf
          refine lv_bipush (v := (6 : Int32)) hx hb dX12_goesOnS_56 (by decide) ?_
          exact bX12_goesOnS_58 X   J (lv_sub hl [0, 2] rfl) hf
        · have hf := itn h hf
          exact bX12_goesOnS_51 X   J (lv_sub hl [0, 2] rfl) hf
  · have hf := itp h hf
    refine lv_aload_n hx hb dX12_goesOnS_5 rfl (lv_at hl 0 rfl) ?_
    refine lv_iload_n hx hb dX12_goesOnS_6 rfl (lv_at hl 2 rfl) ?_
    obtain ⟨r24, σ25, hc, hf⟩ := obd_some hf
    refine zr_callv (As := [.int a2_]) (rest := []) X J 0 ho_R_X12.1 ho_R_X12.2.1 ho_R_X12.2.2 yy_X12_doneS mw_methodLink_TinyCModel_448_TinyCModel_doneS_IV (d := 1) (zR_ok (by omega) (by decide)) hl.1 rfl (Nat.le_of_ble_eq_true rfl) (tX12_doneS  hc) dX12_goesOnS_7 (fun H locs J => ?_)
    refine lv_goto hx hb dX12_goesOnS_10 rfl ?_
    exact zr_vret X J hf dX12_goesOnS_174
set_option maxHeartbeats 4000000 in
theorem tX12_doneE {a1_ : Int32}  {σ u : zSt} {r : Unit} (hf : fX12_doneE N a1_ σ = some (r, u)) : zMv l yX12_doneE cX12_doneE 2 none (1) D cy shR ad ts lnR [.ref (ad 0), .int a1_] σ u := by
  refine zM_of (by decide) (Nat.le_of_ble_eq_true rfl) (fun p e s m args below meth c ls ha X J hl => ?_)
  have hx := X.1
  have hb := X.2.1
  have hl : lv_has ls 2 [(0, .ref (ad 0)), (1, .int a1_)] := hl
  generalize s.heap = H at J ⊢
  generalize ([] : List Loc) = locs at J ⊢
  show W p l e (zRm (1)) s m args below meth c H locs 0 0 (zQv D cy shR ad ts lnR below args s (r, u)) (F0 m 0 ls [])
  unfold fX12_doneE at hf
  refine lv_aload_n hx hb dX12_doneE_0 rfl (lv_at hl 0 rfl) ?_
  refine gf_X12_53 X J dX12_doneE_1 ?_
  refine lv_iload_n hx hb dX12_doneE_4 rfl (lv_at hl 1 rfl) ?_
  obtain ⟨hin, hf⟩ := itx hf
  refine al_X12_X12f39 X J hin dX12_doneE_5 ?_
  refine lv_topi (fun x1 eq => ?_)
  have hf := bnd_eq eq hf
  clear eq
  by_cases h0_ : x1 = (4 : Int32)
  · have hf := itp h0_ hf
    rw [h0_]
    refine lv_lookup hx hb dX12_doneE_6 (by decide) (tgt := 32) (by rfl) (by decide) ?_
    refine lv_aload_n hx hb dX12_doneE_32 rfl (lv_at hl 0 rfl) ?_
    refine lv_bipush (v := (6 : Int32)) hx hb dX12_doneE_33 (by decide) ?_
    obtain ⟨r2, σ3, hc, hf⟩ := obd_some hf
    refine zr_callv (As := [.int (6 : Int32)]) (rest := []) X J 0 ho_R_X12.1 ho_R_X12.2.1 ho_R_X12.2.2 yy_X12_put mw_methodLink_TinyCModel_424_TinyCModel_put_IV (d := 0) (zR_ok (by omega) (by decide)) hl.1 rfl (Nat.le_of_ble_eq_true rfl) (tX12_put  hc) dX12_doneE_35 (fun H locs J => ?_)
    refine lv_aload_n hx hb dX12_doneE_38 rfl (lv_at hl 0 rfl) ?_
    refine lv_aload_n hx hb dX12_doneE_39 rfl (lv_at hl 0 rfl) ?_
    refine gf_X12_65 X J dX12_doneE_40 ?_
    refine lv_iload_n hx hb dX12_doneE_43 rfl (lv_at hl 1 rfl) ?_
    obtain ⟨hin, hf⟩ := itx hf
    refine al_X12_X12f43 X J hin dX12_doneE_44 ?_
    obtain ⟨r4, σ5, hc, hf⟩ := obd_some hf
    refine zr_callv (As := [.int (zA σ3 19 a1_.toNatClampNeg)]) (rest := []) X J 0 ho_R_X12.1 ho_R_X12.2.1 ho_R_X12.2.2 yy_X12_put mw_methodLink_TinyCModel_424_TinyCModel_put_IV (d := 0) (zR_ok (by omega) (by decide)) hl.1 rfl (Nat.le_of_ble_eq_true rfl) (tX12_put  hc) dX12_doneE_45 (fun H locs J => ?_)
    refine lv_aload_n hx hb dX12_doneE_48 rfl (lv_at hl 0 rfl) ?_
    refine lv_aload_n hx hb dX12_doneE_49 rfl (lv_at hl 0 rfl) ?_
    refine gf_X12_68 X J dX12_doneE_50 ?_
    refine lv_iload_n hx hb dX12_doneE_53 rfl (lv_at hl 1 rfl) ?_
    obtain ⟨hin, hf⟩ := itx hf
    refine al_X12_X12f44 X J hin dX12_doneE_54 ?_
    obtain ⟨r6, σ7, hc, hf⟩ := obd_some hf
    refine zr_callv (As := [.int (zA σ5 20 a1_.toNatClampNeg)]) (rest := []) X J 0 ho_R_X12.1 ho_R_X12.2.1 ho_R_X12.2.2 yy_X12_put mw_methodLink_TinyCModel_424_TinyCModel_put_IV (d := 0) (zR_ok (by omega) (by decide)) hl.1 rfl (Nat.le_of_ble_eq_true rfl) (tX12_put  hc) dX12_doneE_55 (fun H locs J => ?_)
    refine lv_goto hx hb dX12_doneE_58 rfl ?_
    exact zr_vret X J hf dX12_doneE_105
  have hf := itn h0_ hf
  by_cases h1_ : x1 = (9 : Int32)
  · have hf := itp h1_ hf
    rw [h1_]
    refine lv_lookup hx hb dX12_doneE_6 (by decide) (tgt := 61) (by rfl) (by decide) ?_
    refine lv_aload_n hx hb dX12_doneE_61 rfl (lv_at hl 0 rfl) ?_
    refine lv_bipush (v := (32 : Int32)) hx hb dX12_doneE_62 (by decide) ?_
    obtain ⟨r8, σ9, hc, hf⟩ := obd_some hf
    refine zr_callv (As := [.int (32 : Int32)]) (rest := []) X J 0 ho_R_X12.1 ho_R_X12.2.1 ho_R_X12.2.2 yy_X12_put mw_methodLink_TinyCModel_424_TinyCModel_put_IV (d := 0) (zR_ok (by omega) (by decide)) hl.1 rfl (Nat.le_of_ble_eq_true rfl) (tX12_put  hc) dX12_doneE_64 (fun H locs J => ?_)
    refine lv_aload_n hx hb dX12_doneE_67 rfl (lv_at hl 0 rfl) ?_
    refine lv_aload_n hx hb dX12_doneE_68 rfl (lv_at hl 0 rfl) ?_
    refine gf_X12_114 X J dX12_doneE_69 ?_
    refine lv_aload_n hx hb dX12_doneE_72 rfl (lv_at hl 0 rfl) ?_
    refine gf_X12_65 X J dX12_doneE_73 ?_
    refine lv_iload_n hx hb dX12_doneE_76 rfl (lv_at hl 1 rfl) ?_
    obtain ⟨hin, hf⟩ := itx hf
    refine al_X12_X12f43 X J hin dX12_doneE_77 ?_
    obtain ⟨hin, hf⟩ := itx hf
    refine al_X12_X12f62 X J hin dX12_doneE_78 ?_
    obtain ⟨r10, σ11, hc, hf⟩ := obd_some hf
    refine zr_callv (As := [.int (zA σ9 35 (zA σ9 19 a1_.toNatClampNeg).toNatClampNeg)]) (rest := []) X J 0 ho_R_X12.1 ho_R_X12.2.1 ho_R_X12.2.2 yy_X12_put mw_methodLink_TinyCModel_424_TinyCModel_put_IV (d := 0) (zR_ok (by omega) (by decide)) hl.1 rfl (Nat.le_of_ble_eq_true rfl) (tX12_put  hc) dX12_doneE_79 (fun H locs J => ?_)
    refine lv_aload_n hx hb dX12_doneE_82 rfl (lv_at hl 0 rfl) ?_
    refine lv_aload_n hx hb dX12_doneE_83 rfl (lv_at hl 0 rfl) ?_
    refine gf_X12_68 X J dX12_doneE_84 ?_
    refine lv_iload_n hx hb dX12_doneE_87 rfl (lv_at hl 1 rfl) ?_
    obtain ⟨hin, hf⟩ := itx hf
    refine al_X12_X12f44 X J hin dX12_doneE_88 ?_
    obtain ⟨r12, σ13, hc, hf⟩ := obd_some hf
    refine zr_callv (As := [.int (zA σ11 20 a1_.toNatClampNeg)]) (rest := []) X J 0 ho_R_X12.1 ho_R_X12.2.1 ho_R_X12.2.2 yy_X12_put mw_methodLink_TinyCModel_424_TinyCModel_put_IV (d := 0) (zR_ok (by omega) (by decide)) hl.1 rfl (Nat.le_of_ble_eq_true rfl) (tX12_put  hc) dX12_doneE_89 (fun H locs J => ?_)
    refine lv_goto hx hb dX12_doneE_92 rfl ?_
    exact zr_vret X J hf dX12_doneE_105
  have hf := itn h1_ hf
  refine lv_lookup hx hb dX12_doneE_6 (by decide) (off := 89) (tgt := 95) (by simp only []; rw [lv_osw h0_ (by decide), lv_osw h1_ (by decide)] <;> rfl) (by decide) ?_
  refine lv_aload_n hx hb dX12_doneE_95 rfl (lv_at hl 0 rfl) ?_
  refine lv_aload_n hx hb dX12_doneE_96 rfl (lv_at hl 0 rfl) ?_
  refine gf_X12_65 X J dX12_doneE_97 ?_
  refine lv_iload_n hx hb dX12_doneE_100 rfl (lv_at hl 1 rfl) ?_
  obtain ⟨hin, hf⟩ := itx hf
  refine al_X12_X12f43 X J hin dX12_doneE_101 ?_
  obtain ⟨r14, σ15, hc, hf⟩ := obd_some hf
  refine zr_callv (As := [.int (zA σ 19 a1_.toNatClampNeg)]) (rest := []) X J 0 ho_R_X12.1 ho_R_X12.2.1 ho_R_X12.2.2 yy_X12_put mw_methodLink_TinyCModel_424_TinyCModel_put_IV (d := 0) (zR_ok (by omega) (by decide)) hl.1 rfl (Nat.le_of_ble_eq_true rfl) (tX12_put  hc) dX12_doneE_102 (fun H locs J => ?_)
  exact zr_vret X J hf dX12_doneE_105
set_option maxHeartbeats 4000000 in
theorem bX12_goesOnE_154 {o : Unit × zSt} (X : zX p s m args meth c D cy shR ad ts cX12_goesOnE 4 none RX12)  {x2_ : Int32} {x3_ : Int32}  {σ : zSt} {H : Heap} {locs : List Loc} {ls : Array Slot} (J : zJ D cy shR ad lnR s σ H locs) (hl : lv_has ls 4 [(0, .ref (ad 0)), (2, .int x2_), (3, .int x3_)]) (hf : fX12_goesOnE_b154 N  x2_ x3_ σ = some o) : W p l e (zRm (2)) s m args below meth c H locs 0 0 (zQv D cy shR ad ts lnR below args s o) (F0 m 154 ls []) := by
  have hx := X.1
  have hb := X.2.1
  unfold fX12_goesOnE_b154 at hf
  refine lv_aload_n hx hb dX12_goesOnE_154 rfl (lv_at hl 0 rfl) ?_
  refine lv_iconst (v := (1 : Int32)) hx hb dX12_goesOnE_155 (by decide) ?_
  obtain ⟨r12, σ13, hc, hf⟩ := obd_some hf
  refine zr_callv (As := [.int (1 : Int32)]) (rest := []) X J 0 ho_R_X12.1 ho_R_X12.2.1 ho_R_X12.2.2 yy_X12_put mw_methodLink_TinyCModel_424_TinyCModel_put_IV (d := 0) (zR_ok (by omega) (by decide)) hl.1 rfl (Nat.le_of_ble_eq_true rfl) (tX12_put  hc) dX12_goesOnE_156 (fun H locs J => ?_)
  refine lv_aload_n hx hb dX12_goesOnE_159 rfl (lv_at hl 0 rfl) ?_
  refine lv_iconst (v := (0 : Int32)) hx hb dX12_goesOnE_160 (by decide) ?_
  obtain ⟨r14, σ15, hc, hf⟩ := obd_some hf
  refine zr_callv (As := [.int (0 : Int32)]) (rest := []) X J 0 ho_R_X12.1 ho_R_X12.2.1 ho_R_X12.2.2 yy_X12_put mw_methodLink_TinyCModel_424_TinyCModel_put_IV (d := 0) (zR_ok (by omega) (by decide)) hl.1 rfl (Nat.le_of_ble_eq_true rfl) (tX12_put  hc) dX12_goesOnE_161 (fun H locs J => ?_)
  refine lv_aload_n hx hb dX12_goesOnE_164 rfl (lv_at hl 0 rfl) ?_
  refine lv_iload_n hx hb dX12_goesOnE_165 rfl (lv_at hl 2 rfl) ?_
  obtain ⟨r16, σ17, hc, hf⟩ := obd_some hf
  refine zr_callv (As := [.int x3_]) (rest := []) X J 0 ho_R_X12.1 ho_R_X12.2.1 ho_R_X12.2.2 yy_X12_land mw_methodLink_TinyCModel_454_TinyCModel_land_IV (d := 0) (zR_ok (by omega) (by decide)) hl.1 rfl (Nat.le_of_ble_eq_true rfl) (tX12_land  hc) dX12_goesOnE_166 (fun H locs J => ?_)
  refine lv_aload_n hx hb dX12_goesOnE_169 rfl (lv_at hl 0 rfl) ?_
  refine gf_X12_53 X J dX12_goesOnE_170 ?_
  refine lv_iload_n hx hb dX12_goesOnE_173 rfl (lv_at hl 1 rfl) ?_
  obtain ⟨hin, hf⟩ := itx hf
  refine al_X12_X12f39 X J hin dX12_goesOnE_174 ?_
  refine lv_bipush (v := (8 : Int32)) hx hb dX12_goesOnE_175 (by decide) ?_
  refine lv_icmp_ne hx hb dX12_goesOnE_177 rfl (fun h => ?_) (fun h => ?_)
  · have hf := itn h hf
    exact zr_vret X J hf dX12_goesOnE_190
  · have hf := itp h hf
    refine lv_aload_n hx hb dX12_goesOnE_180 rfl (lv_at hl 0 rfl) ?_
    refine lv_aload_n hx hb dX12_goesOnE_181 rfl (lv_at hl 0 rfl) ?_
    refine gf_X12_129 X J dX12_goesOnE_182 ?_
    refine lv_iload_n hx hb dX12_goesOnE_185 rfl (lv_at hl 1 rfl) ?_
    obtain ⟨hin, hf⟩ := itx hf
    refine al_X12_X12f68 X J hin dX12_goesOnE_186 ?_
    obtain ⟨r18, σ19, hc, hf⟩ := obd_some hf
    refine zr_callv (As := [.int (zA σ17 40 x2_.toNatClampNeg)]) (rest := []) X J 0 ho_R_X12.1 ho_R_X12.2.1 ho_R_X12.2.2 yy_X12_land mw_methodLink_TinyCModel_454_TinyCModel_land_IV (d := 0) (zR_ok (by omega) (by decide)) hl.1 rfl (Nat.le_of_ble_eq_true rfl) (tX12_land  hc) dX12_goesOnE_187 (fun H locs J => ?_)
    exact zr_vret X J hf dX12_goesOnE_190
set_option maxHeartbeats 4000000 in
theorem bX12_goesOnE_73 {o : Unit × zSt} (X : zX p s m args meth c D cy shR ad ts cX12_goesOnE 4 none RX12)  {x2_ : Int32}  {σ : zSt} {H : Heap} {locs : List Loc} {ls : Array Slot} (J : zJ D cy shR ad lnR s σ H locs) (hl : lv_has ls 4 [(0, .ref (ad 0)), (2, .int x2_)]) (hf : fX12_goesOnE_b73 N  x2_ σ = some o) : W p l e (zRm (2)) s m args below meth c H locs 0 0 (zQv D cy shR ad ts lnR below args s o) (F0 m 73 ls []) := by
  have hx := X.1
  have hb := X.2.1
  unfold fX12_goesOnE_b73 at hf
  refine lv_aload_n hx hb dX12_goesOnE_73 rfl (lv_at hl 0 rfl) ?_
  refine lv_bipush (v := (7 : Int32)) hx hb dX12_goesOnE_74 (by decide) ?_
  refine lv_iload_n hx hb dX12_goesOnE_76 rfl (lv_at hl 1 rfl) ?_
  obtain ⟨r25, σ26, hc, hf⟩ := obd_some hf
  refine zr_callv (As := [.int (7 : Int32), .int x2_]) (rest := []) X J 0 ho_R_X12.1 ho_R_X12.2.1 ho_R_X12.2.2 yy_X12_task mw_methodLink_TinyCModel_433_TinyCModel_task_IIV (d := 0) (zR_ok (by omega) (by decide)) hl.1 rfl (Nat.le_of_ble_eq_true rfl) (tX12_task  hc) dX12_goesOnE_77 (fun H locs J => ?_)
  refine lv_aload_n hx hb dX12_goesOnE_80 rfl (lv_at hl 0 rfl) ?_
  refine lv_iconst (v := (2 : Int32)) hx hb dX12_goesOnE_81 (by decide) ?_
  refine lv_aload_n hx hb dX12_goesOnE_82 rfl (lv_at hl 0 rfl) ?_
  refine gf_X12_59 X J dX12_goesOnE_83 ?_
  refine lv_iload_n hx hb dX12_goesOnE_86 rfl (lv_at hl 1 rfl) ?_
  obtain ⟨hin, hf⟩ := itx hf
  refine al_X12_X12f41 X J hin dX12_goesOnE_87 ?_
  obtain ⟨r27, σ28, hc, hf⟩ := obd_some hf
  refine zr_callv (As := [.int (2 : Int32), .int (zA σ26 17 x2_.toNatClampNeg)]) (rest := []) X J 0 ho_R_X12.1 ho_R_X12.2.1 ho_R_X12.2.2 yy_X12_task mw_methodLink_TinyCModel_433_TinyCModel_task_IIV (d := 0) (zR_ok (by omega) (by decide)) hl.1 rfl (Nat.le_of_ble_eq_true rfl) (tX12_task  hc) dX12_goesOnE_88 (fun H locs J => ?_)
  refine lv_goto hx hb dX12_goesOnE_91 rfl ?_
  exact zr_vret X J hf dX12_goesOnE_190
set_option maxHeartbeats 4000000 in
theorem tX12_goesOnE {a1_ : Int32} {a2_ : Int32}  {σ u : zSt} {r : Unit} (hf : fX12_goesOnE N a1_ a2_ σ = some (r, u)) : zMv l yX12_goesOnE cX12_goesOnE 4 none (2) D cy shR ad ts lnR [.ref (ad 0), .int a1_, .int a2_] σ u := by
  refine zM_of (by decide) (Nat.le_of_ble_eq_true rfl) (fun p e s m args below meth c ls ha X J hl => ?_)
  have hx := X.1
  have hb := X.2.1
  have hl : lv_has ls 4 [(0, .ref (ad 0)), (1, .int a1_), (2, .int a2_)] := hl
  generalize s.heap = H at J ⊢
  generalize ([] : List Loc) = locs at J ⊢
  show W p l e (zRm (2)) s m args below meth c H locs 0 0 (zQv D cy shR ad ts lnR below args s (r, u)) (F0 m 0 ls [])
  unfold fX12_goesOnE at hf
  refine lv_iload_n hx hb dX12_goesOnE_0 rfl (lv_at hl 1 rfl) ?_
  refine lv_iconst (v := (4 : Int32)) hx hb dX12_goesOnE_1 (by decide) ?_
  refine lv_icmp_ne hx hb dX12_goesOnE_2 rfl (fun h => ?_) (fun h => ?_)
  · have hf := itn h hf
    refine lv_iload_n hx hb dX12_goesOnE_13 rfl (lv_at hl 1 rfl) ?_
    refine lv_iconst (v := (5 : Int32)) hx hb dX12_goesOnE_14 (by decide) ?_
    refine lv_icmp_ne hx hb dX12_goesOnE_15 rfl (fun h => ?_) (fun h => ?_)
    · have hf := itn h hf
      refine lv_aload_n hx hb dX12_goesOnE_94 rfl (lv_at hl 0 rfl) ?_
      refine gf_X12_126 X J dX12_goesOnE_95 ?_
      refine lv_iload_n hx hb dX12_goesOnE_98 rfl (lv_at hl 2 rfl) ?_
      refine lv_aload_n hx hb dX12_goesOnE_99 rfl (lv_at hl 0 rfl) ?_
      refine lv_bipush (v := (31 : Int32)) hx hb dX12_goesOnE_100 (by decide) ?_
      obtain ⟨r1, σ2, hc, hf⟩ := obd_some hf
      refine zr_calli (As := [.int (31 : Int32)]) (rest := [.int a2_, .ref (ad 39)]) X J 0 ho_R_X12.1 ho_R_X12.2.1 ho_R_X12.2.2 yy_X12_jump mw_methodLink_TinyCModel_451_TinyCModel_jump_II (d := 1) (zR_ok (by omega) (by decide)) hl.1 rfl (Nat.le_of_ble_eq_true rfl) (tX12_jump  hc) dX12_goesOnE_102 (fun H locs J => ?_)
      obtain ⟨hin, hf⟩ := itx hf
      refine as_X12_X12f67 X J hin dX12_goesOnE_105 (fun σ3 H locs eq J => ?_)
      have hf := bnd_eq eq hf
      clear eq
      refine lv_aload_n hx hb dX12_goesOnE_106 rfl (lv_at hl 0 rfl) ?_
      refine lv_iconst (v := (1 : Int32)) hx hb dX12_goesOnE_107 (by decide) ?_
      obtain ⟨r4, σ5, hc, hf⟩ := obd_some hf
      refine zr_callv (As := [.int (1 : Int32)]) (rest := []) X J 0 ho_R_X12.1 ho_R_X12.2.1 ho_R_X12.2.2 yy_X12_put mw_methodLink_TinyCModel_424_TinyCModel_put_IV (d := 0) (zR_ok (by omega) (by decide)) hl.1 rfl (Nat.le_of_ble_eq_true rfl) (tX12_put  hc) dX12_goesOnE_108 (fun H locs J => ?_)
      refine lv_aload_n hx hb dX12_goesOnE_111 rfl (lv_at hl 0 rfl) ?_
      refine lv_iconst (v := (1 : Int32)) hx hb dX12_goesOnE_112 (by decide) ?_
      obtain ⟨r6, σ7, hc, hf⟩ := obd_some hf
      refine zr_callv (As := [.int (1 : Int32)]) (rest := []) X J 0 ho_R_X12.1 ho_R_X12.2.1 ho_R_X12.2.2 yy_X12_put mw_methodLink_TinyCModel_424_TinyCModel_put_IV (d := 0) (zR_ok (by omega) (by decide)) hl.1 rfl (Nat.le_of_ble_eq_true rfl) (tX12_put  hc) dX12_goesOnE_113 (fun H locs J => ?_)
      refine lv_aload_n hx hb dX12_goesOnE_116 rfl (lv_at hl 0 rfl) ?_
      refine lv_bipush (v := (30 : Int32)) hx hb dX12_goesOnE_117 (by decide) ?_
      obtain ⟨r8, σ9, hc, hf⟩ := obd_some hf
      refine zr_calli (As := [.int (30 : Int32)]) (rest := []) X J 0 ho_R_X12.1 ho_R_X12.2.1 ho_R_X12.2.2 yy_X12_jump mw_methodLink_TinyCModel_451_TinyCModel_jump_II (d := 1) (zR_ok (by omega) (by decide)) hl.1 rfl (Nat.le_of_ble_eq_true rfl) (tX12_jump  hc) dX12_goesOnE_119 (fun H locs J => ?_)
      refine lv_istore_n hx hb dX12_goesOnE_122 rfl hl (by decide) rfl (fun ls hl => ?_)
      have hl : lv_has ls 4 [(3, .int r8), (0, .ref (ad 0)), (1, .int a1_), (2, .int a2_)] := hl
      refine lv_aload_n hx hb dX12_goesOnE_123 rfl (lv_at hl 1 rfl) ?_
      refine lv_aload_n hx hb dX12_goesOnE_124 rfl (lv_at hl 1 rfl) ?_
      refine gf_X12_126 X J dX12_goesOnE_125 ?_
      refine lv_iload_n hx hb dX12_goesOnE_128 rfl (lv_at hl 3 rfl) ?_
      obtain ⟨hin, hf⟩ := itx hf
      refine al_X12_X12f67 X J hin dX12_goesOnE_129 ?_
      obtain ⟨r10, σ11, hc, hf⟩ := obd_some hf
      refine zr_callv (As := [.int (zA σ9 39 a2_.toNatClampNeg)]) (rest := []) X J 0 ho_R_X12.1 ho_R_X12.2.1 ho_R_X12.2.2 yy_X12_land mw_methodLink_TinyCModel_454_TinyCModel_land_IV (d := 0) (zR_ok (by omega) (by decide)) hl.1 rfl (Nat.le_of_ble_eq_true rfl) (tX12_land  hc) dX12_goesOnE_130 (fun H locs J => ?_)
      refine lv_aload_n hx hb dX12_goesOnE_133 rfl (lv_at hl 1 rfl) ?_
      refine gf_X12_53 X J dX12_goesOnE_134 ?_
      refine lv_iload_n hx hb dX12_goesOnE_137 rfl (lv_at hl 3 rfl) ?_
      obtain ⟨hin, hf⟩ := itx hf
      refine al_X12_X12f39 X J hin dX12_goesOnE_138 ?_
      refine lv_bipush (v := (7 : Int32)) hx hb dX12_goesOnE_139 (by decide) ?_
      refine lv_icmp_ne hx hb dX12_goesOnE_141 rfl (fun h => ?_) (fun h => ?_)
      · have hf := itn h hf
        exact bX12_goesOnE_154 X   J (lv_sub hl [1, 3, 0] rfl) hf
      · have hf := itp h hf
        refine lv_aload_n hx hb dX12_goesOnE_144 rfl (lv_at hl 1 rfl) ?_
        refine lv_aload_n hx hb dX12_goesOnE_145 rfl (lv_at hl 1 rfl) ?_
        refine gf_X12_123 X J dX12_goesOnE_146 ?_
        refine lv_iload_n hx hb dX12_goesOnE_149 rfl (lv_at hl 3 rfl) ?_
        obtain ⟨hin, hf⟩ := itx hf
        refine al_X12_X12f66 X J hin dX12_goesOnE_150 ?_
        obtain ⟨r20, σ21, hc, hf⟩ := obd_some hf
        refine zr_callv (As := [.int (zA σ11 38 a2_.toNatClampNeg)]) (rest := []) X J 0 ho_R_X12.1 ho_R_X12.2.1 ho_R_X12.2.2 yy_X12_land mw_methodLink_TinyCModel_454_TinyCModel_land_IV (d := 0) (zR_ok (by omega) (by decide)) hl.1 rfl (Nat.le_of_ble_eq_true rfl) (tX12_land  hc) dX12_goesOnE_151 (fun H locs J => ?_)
        exact bX12_goesOnE_154 X   J (lv_sub hl [1, 3, 0] rfl) hf
    · have hf := itp h hf
      refine lv_aload_n hx hb dX12_goesOnE_18 rfl (lv_at hl 0 rfl) ?_
      refine gf_X12_123 X J dX12_goesOnE_19 ?_
      refine lv_iload_n hx hb dX12_goesOnE_22 rfl (lv_at hl 2 rfl) ?_
      refine lv_aload_n hx hb dX12_goesOnE_23 rfl (lv_at hl 0 rfl) ?_
      refine lv_bipush (v := (31 : Int32)) hx hb dX12_goesOnE_24 (by decide) ?_
      obtain ⟨r22, σ23, hc, hf⟩ := obd_some hf
      refine zr_calli (As := [.int (31 : Int32)]) (rest := [.int a2_, .ref (ad 38)]) X J 0 ho_R_X12.1 ho_R_X12.2.1 ho_R_X12.2.2 yy_X12_jump mw_methodLink_TinyCModel_451_TinyCModel_jump_II (d := 1) (zR_ok (by omega) (by decide)) hl.1 rfl (Nat.le_of_ble_eq_true rfl) (tX12_jump  hc) dX12_goesOnE_26 (fun H locs J => ?_)
      obtain ⟨hin, hf⟩ := itx hf
      refine as_X12_X12f66 X J hin dX12_goesOnE_29 (fun σ24 H locs eq J => ?_)
      have hf := bnd_eq eq hf
      clear eq
      refine lv_aload_n hx hb dX12_goesOnE_30 rfl (lv_at hl 0 rfl) ?_
      refine gf_X12_53 X J dX12_goesOnE_31 ?_
      refine lv_iload_n hx hb dX12_goesOnE_34 rfl (lv_at hl 2 rfl) ?_
      obtain ⟨hin, hf⟩ := itx hf
      refine al_X12_X12f39 X J hin dX12_goesOnE_35 ?_
      refine lv_bipush (v := (8 : Int32)) hx hb dX12_goesOnE_36 (by decide) ?_
      refine lv_icmp_ne hx hb dX12_goesOnE_38 rfl (fun h => ?_) (fun h => ?_)
      · have hf := itn h hf
        exact bX12_goesOnE_73 X   J (lv_sub hl [0, 2] rfl) hf
      · have hf := itp h hf
        refine lv_aload_n hx hb dX12_goesOnE_41 rfl (lv_at hl 0 rfl) ?_
        refine lv_iconst (v := (1 : Int32)) hx hb dX12_goesOnE_42 (by decide) ?_
        obtain ⟨r29, σ30, hc, hf⟩ := obd_some hf
        refine zr_callv (As := [.int (1 : Int32)]) (rest := []) X J 0 ho_R_X12.1 ho_R_X12.2.1 ho_R_X12.2.2 yy_X12_put mw_methodLink_TinyCModel_424_TinyCModel_put_IV (d := 0) (zR_ok (by omega) (by decide)) hl.1 rfl (Nat.le_of_ble_eq_true rfl) (tX12_put  hc) dX12_goesOnE_43 (fun H locs J => ?_)
        refine lv_aload_n hx hb dX12_goesOnE_46 rfl (lv_at hl 0 rfl) ?_
        refine lv_iconst (v := (1 : Int32)) hx hb dX12_goesOnE_47 (by decide) ?_
        obtain ⟨r31, σ32, hc, hf⟩ := obd_some hf
        refine zr_callv (As := [.int (1 : Int32)]) (rest := []) X J 0 ho_R_X12.1 ho_R_X12.2.1 ho_R_X12.2.2 yy_X12_put mw_methodLink_TinyCModel_424_TinyCModel_put_IV (d := 0) (zR_ok (by omega) (by decide)) hl.1 rfl (Nat.le_of_ble_eq_true rfl) (tX12_put  hc) dX12_goesOnE_48 (fun H locs J => ?_)
        refine lv_aload_n hx hb dX12_goesOnE_51 rfl (lv_at hl 0 rfl) ?_
        refine gf_X12_129 X J dX12_goesOnE_52 ?_
        refine lv_iload_n hx hb dX12_goesOnE_55 rfl (lv_at hl 2 rfl) ?_
        refine lv_aload_n hx hb dX12_goesOnE_56 rfl (lv_at hl 0 rfl) ?_
        refine lv_bipush (v := (30 : Int32)) hx hb dX12_goesOnE_57 (by decide) ?_
        obtain ⟨r33, σ34, hc, hf⟩ := obd_some hf
        refine zr_calli (As := [.int (30 : Int32)]) (rest := [.int a2_, .ref (ad 40)]) X J 0 ho_R_X12.1 ho_R_X12.2.1 ho_R_X12.2.2 yy_X12_jump mw_methodLink_TinyCModel_451_TinyCModel_jump_II (d := 1) (zR_ok (by omega) (by decide)) hl.1 rfl (Nat.le_of_ble_eq_true rfl) (tX12_jump  hc) dX12_goesOnE_59 (fun H locs J => ?_)
        obtain ⟨hin, hf⟩ := itx hf
        refine as_X12_X12f68 X J hin dX12_goesOnE_62 (fun σ35 H locs eq J => ?_)
        have hf := bnd_eq eq hf
        clear eq
        refine lv_aload_n hx hb dX12_goesOnE_63 rfl (lv_at hl 0 rfl) ?_
        refine lv_aload_n hx hb dX12_goesOnE_64 rfl (lv_at hl 0 rfl) ?_
        refine gf_X12_123 X J dX12_goesOnE_65 ?_
        refine lv_iload_n hx hb dX12_goesOnE_68 rfl (lv_at hl 2 rfl) ?_
        obtain ⟨hin, hf⟩ := itx hf
        refine al_X12_X12f66 X J hin dX12_goesOnE_69 ?_
        obtain ⟨r36, σ37, hc, hf⟩ := obd_some hf
        refine zr_callv (As := [.int (zA σ35 38 a2_.toNatClampNeg)]) (rest := []) X J 0 ho_R_X12.1 ho_R_X12.2.1 ho_R_X12.2.2 yy_X12_land mw_methodLink_TinyCModel_454_TinyCModel_land_IV (d := 0) (zR_ok (by omega) (by decide)) hl.1 rfl (Nat.le_of_ble_eq_true rfl) (tX12_land  hc) dX12_goesOnE_70 (fun H locs J => ?_)
        exact bX12_goesOnE_73 X   J (lv_sub hl [0, 2] rfl) hf
  · have hf := itp h hf
    refine lv_aload_n hx hb dX12_goesOnE_5 rfl (lv_at hl 0 rfl) ?_
    refine lv_iload_n hx hb dX12_goesOnE_6 rfl (lv_at hl 2 rfl) ?_
    obtain ⟨r38, σ39, hc, hf⟩ := obd_some hf
    refine zr_callv (As := [.int a2_]) (rest := []) X J 0 ho_R_X12.1 ho_R_X12.2.1 ho_R_X12.2.2 yy_X12_doneE mw_methodLink_TinyCModel_457_TinyCModel_doneE_IV (d := 1) (zR_ok (by omega) (by decide)) hl.1 rfl (Nat.le_of_ble_eq_true rfl) (tX12_doneE  hc) dX12_goesOnE_7 (fun H locs J => ?_)
    refine lv_goto hx hb dX12_goesOnE_10 rfl ?_
    exact zr_vret X J hf dX12_goesOnE_190
set_option maxHeartbeats 4000000 in
theorem bX12_makeS_147 {o : Unit × zSt} (X : zX p s m args meth c D cy shR ad ts cX12_makeS 4 none RX12) {k11 : zSt → Option (Unit × zSt)} (hk11 : ∀  (σ : zSt) (H : Heap) (locs : List Loc) (ls : Array Slot), zJ D cy shR ad lnR s σ H locs → lv_has ls 4 [(0, .ref (ad 0))] → k11  σ = some o → W p l e (zRm (3)) s m args below meth c H locs 0 0 (zQv D cy shR ad ts lnR below args s o) (F0 m 11 ls []))   {σ : zSt} {H : Heap} {locs : List Loc} {ls : Array Slot} (J : zJ D cy shR ad lnR s σ H locs) (hl : lv_has ls 4 [(0, .ref (ad 0))]) (hf : fX12_makeS_b147 N k11  σ = some o) : W p l e (zRm (3)) s m args below meth c H locs 0 0 (zQv D cy shR ad ts lnR below args s o) (F0 m 147 ls []) := by
  have hx := X.1
  have hb := X.2.1
  unfold fX12_makeS_b147 at hf
  refine lv_goto hx hb dX12_makeS_147 rfl ?_
  exact hk11 _ _ _ _ J (lv_sub hl [0] rfl) hf
set_option maxHeartbeats 4000000 in
theorem bX12_makeS_114 {o : Unit × zSt} (X : zX p s m args meth c D cy shR ad ts cX12_makeS 4 none RX12) {k11 : zSt → Option (Unit × zSt)} (hk11 : ∀  (σ : zSt) (H : Heap) (locs : List Loc) (ls : Array Slot), zJ D cy shR ad lnR s σ H locs → lv_has ls 4 [(0, .ref (ad 0))] → k11  σ = some o → W p l e (zRm (3)) s m args below meth c H locs 0 0 (zQv D cy shR ad ts lnR below args s o) (F0 m 11 ls [])) {x3_ : Int32} {s0_ : Int32}  {σ : zSt} {H : Heap} {locs : List Loc} {ls : Array Slot} (J : zJ D cy shR ad lnR s σ H locs) (hl : lv_has ls 4 [(0, .ref (ad 0)), (3, .int x3_)]) (hf : fX12_makeS_b114 N k11 x3_ s0_ σ = some o) : W p l e (zRm (3)) s m args below meth c H locs 0 0 (zQv D cy shR ad ts lnR below args s o) (F0 m 114 ls [.int s0_, .ref (ad 0)]) := by
  have hx := X.1
  have hb := X.2.1
  unfold fX12_makeS_b114 at hf
  refine lv_iload_n hx hb dX12_makeS_114 rfl (lv_at hl 1 rfl) ?_
  obtain ⟨r7, σ8, hc, hf⟩ := obd_some hf
  refine zr_callv (As := [.int s0_, .int x3_]) (rest := []) X J 0 ho_R_X12.1 ho_R_X12.2.1 ho_R_X12.2.2 yy_X12_task mw_methodLink_TinyCModel_433_TinyCModel_task_IIV (d := 0) (zR_ok (by omega) (by decide)) hl.1 rfl (Nat.le_of_ble_eq_true rfl) (tX12_task  hc) dX12_makeS_115 (fun H locs J => ?_)
  refine lv_goto hx hb dX12_makeS_118 rfl ?_
  exact bX12_makeS_147 X hk11  J (lv_sub hl [0] rfl) hf
set_option maxHeartbeats 4000000 in
theorem bX12_makeS_103 {o : Unit × zSt} (X : zX p s m args meth c D cy shR ad ts cX12_makeS 4 none RX12) {k11 : zSt → Option (Unit × zSt)} (hk11 : ∀  (σ : zSt) (H : Heap) (locs : List Loc) (ls : Array Slot), zJ D cy shR ad lnR s σ H locs → lv_has ls 4 [(0, .ref (ad 0))] → k11  σ = some o → W p l e (zRm (3)) s m args below meth c H locs 0 0 (zQv D cy shR ad ts lnR below args s o) (F0 m 11 ls [])) {x2_ : Int32} {x3_ : Int32}  {σ : zSt} {H : Heap} {locs : List Loc} {ls : Array Slot} (J : zJ D cy shR ad lnR s σ H locs) (hl : lv_has ls 4 [(0, .ref (ad 0)), (2, .int x2_), (3, .int x3_)]) (hf : fX12_makeS_b103 N k11 x2_ x3_ σ = some o) : W p l e (zRm (3)) s m args below meth c H locs 0 0 (zQv D cy shR ad ts lnR below args s o) (F0 m 103 ls []) := by
  have hx := X.1
  have hb := X.2.1
  unfold fX12_makeS_b103 at hf
  refine lv_aload_n hx hb dX12_makeS_103 rfl (lv_at hl 0 rfl) ?_
  refine lv_iload_n hx hb dX12_makeS_104 rfl (lv_at hl 1 rfl) ?_
  refine lv_iconst (v := (1 : Int32)) hx hb dX12_makeS_105 (by decide) ?_
  refine lv_icmp_ne hx hb dX12_makeS_106 rfl (fun h => ?_) (fun h => ?_)
  · have hf := itn h hf
    refine lv_iconst (v := (2 : Int32)) hx hb dX12_makeS_113 (by decide) ?_
    exact bX12_makeS_114 X hk11  J (lv_sub hl [0, 2] rfl) hf
  · have hf := itp h hf
    refine lv_iconst (v := (0 : Int32)) hx hb dX12_makeS_109 (by decide) ?_
    refine lv_goto hx hb dX12_makeS_110 rfl ?_
    exact bX12_makeS_114 X hk11  J (lv_sub hl [0, 2] rfl) hf
set_option maxHeartbeats 4000000 in
theorem bX12_makeS_83 {o : Unit × zSt} (X : zX p s m args meth c D cy shR ad ts cX12_makeS 4 none RX12) {k11 : zSt → Option (Unit × zSt)} (hk11 : ∀  (σ : zSt) (H : Heap) (locs : List Loc) (ls : Array Slot), zJ D cy shR ad lnR s σ H locs → lv_has ls 4 [(0, .ref (ad 0))] → k11  σ = some o → W p l e (zRm (3)) s m args below meth c H locs 0 0 (zQv D cy shR ad ts lnR below args s o) (F0 m 11 ls [])) {x2_ : Int32} {x3_ : Int32}  {σ : zSt} {H : Heap} {locs : List Loc} {ls : Array Slot} (J : zJ D cy shR ad lnR s σ H locs) (hl : lv_has ls 4 [(0, .ref (ad 0)), (2, .int x2_), (3, .int x3_)]) (hf : fX12_makeS_b83 N k11 x2_ x3_ σ = some o) : W p l e (zRm (3)) s m args below meth c H locs 0 0 (zQv D cy shR ad ts lnR below args s o) (F0 m 83 ls []) := by
  have hx := X.1
  have hb := X.2.1
  unfold fX12_makeS_b83 at hf
  refine lv_aload_n hx hb dX12_makeS_83 rfl (lv_at hl 0 rfl) ?_
  refine gf_X12_71 X J dX12_makeS_84 ?_
  refine lv_iload_n hx hb dX12_makeS_87 rfl (lv_at hl 2 rfl) ?_
  obtain ⟨hin, hf⟩ := itx hf
  refine al_X12_X12f45 X J hin dX12_makeS_88 ?_
  refine lv_if_lt hx hb dX12_makeS_89 rfl (fun h => ?_) (fun h => ?_)
  · have hf := itp h hf
    exact bX12_makeS_103 X hk11  J (lv_sub hl [0, 1, 2] rfl) hf
  · have hf := itn h hf
    refine lv_aload_n hx hb dX12_makeS_92 rfl (lv_at hl 0 rfl) ?_
    refine lv_iload_n hx hb dX12_makeS_93 rfl (lv_at hl 1 rfl) ?_
    refine lv_aload_n hx hb dX12_makeS_94 rfl (lv_at hl 0 rfl) ?_
    refine gf_X12_71 X J dX12_makeS_95 ?_
    refine lv_iload_n hx hb dX12_makeS_98 rfl (lv_at hl 2 rfl) ?_
    obtain ⟨hin, hf⟩ := itx hf
    refine al_X12_X12f45 X J hin dX12_makeS_99 ?_
    obtain ⟨r9, σ10, hc, hf⟩ := obd_some hf
    refine zr_callv (As := [.int x2_, .int (zA σ 21 x3_.toNatClampNeg)]) (rest := []) X J 0 ho_R_X12.1 ho_R_X12.2.1 ho_R_X12.2.2 yy_X12_task mw_methodLink_TinyCModel_433_TinyCModel_task_IIV (d := 0) (zR_ok (by omega) (by decide)) hl.1 rfl (Nat.le_of_ble_eq_true rfl) (tX12_task  hc) dX12_makeS_100 (fun H locs J => ?_)
    exact bX12_makeS_103 X hk11  J (lv_sub hl [0, 1, 2] rfl) hf
set_option maxHeartbeats 4000000 in
theorem bX12_makeS_11 {o : Unit × zSt} (X : zX p s m args meth c D cy shR ad ts cX12_makeS 4 none RX12)  : ∀ (n : Nat)  (σ : zSt) (H : Heap) (locs : List Loc) (ls : Array Slot), zJ D cy shR ad lnR s σ H locs → lv_has ls 4 [(0, .ref (ad 0))] → fX12_makeS_b11 N  n  σ = some o → W p l e (zRm (3)) s m args below meth c H locs 0 0 (zQv D cy shR ad ts lnR below args s o) (F0 m 11 ls []) := by
  have hx := X.1
  have hb := X.2.1
  intro n
  induction n with
  | zero =>
    intro  σ H locs ls J hl hf
    rw [fX12_makeS_b11] at hf
    cases hf
  | succ n ih =>
    intro  σ H locs ls J hl hf
    rw [fX12_makeS_b11] at hf
    refine lv_aload_n hx hb dX12_makeS_11 rfl (lv_at hl 0 rfl) ?_
    refine gf_X12_430 X J dX12_makeS_12 ?_
    refine lv_if_le hx hb dX12_makeS_15 rfl (fun h => ?_) (fun h => ?_)
    · have hf := itp h hf
      exact zr_vret X J hf dX12_makeS_150
    · have hf := itn h hf
      refine lv_aload_n hx hb dX12_makeS_18 rfl (lv_at hl 0 rfl) ?_
      refine lv_dup hx hb dX12_makeS_19 rfl ?_
      refine gf_X12_430 X J dX12_makeS_20 ?_
      refine lv_iconst (v := (1 : Int32)) hx hb dX12_makeS_23 (by decide) ?_
      refine lv_isub hx hb dX12_makeS_24 ?_
      refine pf_X12_430 X J dX12_makeS_25 (fun σ4 H locs eq J => ?_)
      have hf := bnd_eq eq hf
      clear eq
      refine lv_aload_n hx hb dX12_makeS_28 rfl (lv_at hl 0 rfl) ?_
      refine gf_X12_117 X J dX12_makeS_29 ?_
      refine lv_aload_n hx hb dX12_makeS_32 rfl (lv_at hl 0 rfl) ?_
      refine gf_X12_430 X J dX12_makeS_33 ?_
      obtain ⟨hin, hf⟩ := itx hf
      refine al_X12_X12f64 X J hin dX12_makeS_36 ?_
      refine lv_topi (fun x5 eq => ?_)
      have hf := bnd_eq eq hf
      clear eq
      refine lv_istore_n hx hb dX12_makeS_37 rfl hl (by decide) rfl (fun ls hl => ?_)
      have hl : lv_has ls 4 [(2, .int x5), (0, .ref (ad 0))] := hl
      refine lv_aload_n hx hb dX12_makeS_38 rfl (lv_at hl 1 rfl) ?_
      refine gf_X12_120 X J dX12_makeS_39 ?_
      refine lv_aload_n hx hb dX12_makeS_42 rfl (lv_at hl 1 rfl) ?_
      refine gf_X12_430 X J dX12_makeS_43 ?_
      obtain ⟨hin, hf⟩ := itx hf
      refine al_X12_X12f65 X J hin dX12_makeS_46 ?_
      refine lv_topi (fun x6 eq => ?_)
      have hf := bnd_eq eq hf
      clear eq
      refine lv_istore_n hx hb dX12_makeS_47 rfl hl (by decide) rfl (fun ls hl => ?_)
      have hl : lv_has ls 4 [(3, .int x6), (2, .int x5), (0, .ref (ad 0))] := hl
      refine lv_iload_n hx hb dX12_makeS_48 rfl (lv_at hl 1 rfl) ?_
      refine lv_if_ne hx hb dX12_makeS_49 rfl (fun h => ?_) (fun h => ?_)
      · have hf := itn h hf
        refine lv_iload_n hx hb dX12_makeS_60 rfl (lv_at hl 1 rfl) ?_
        refine lv_iconst (v := (2 : Int32)) hx hb dX12_makeS_61 (by decide) ?_
        refine lv_icmp_ne hx hb dX12_makeS_62 rfl (fun h => ?_) (fun h => ?_)
        · have hf := itn h hf
          refine lv_iload_n hx hb dX12_makeS_73 rfl (lv_at hl 1 rfl) ?_
          refine lv_iconst (v := (1 : Int32)) hx hb dX12_makeS_74 (by decide) ?_
          refine lv_icmp_eq hx hb dX12_makeS_75 rfl (fun h => ?_) (fun h => ?_)
          · have hf := itp h hf
            exact bX12_makeS_83 X ih  J (lv_sub hl [2, 1, 0] rfl) hf
          · have hf := itn h hf
            refine lv_iload_n hx hb dX12_makeS_78 rfl (lv_at hl 1 rfl) ?_
            refine lv_iconst (v := (3 : Int32)) hx hb dX12_makeS_79 (by decide) ?_
            refine lv_icmp_ne hx hb dX12_makeS_80 rfl (fun h => ?_) (fun h => ?_)
            · have hf := itn h hf
              refine lv_aload_n hx hb dX12_makeS_121 rfl (lv_at hl 2 rfl) ?_
              refine gf_X12_53 X J dX12_makeS_122 ?_
              refine lv_iload_n hx hb dX12_makeS_125 rfl (lv_at hl 0 rfl) ?_
              obtain ⟨hin, hf⟩ := itx hf
              refine al_X12_X12f39 X J hin dX12_makeS_126 ?_
              refine lv_bipush (v := (20 : Int32)) hx hb dX12_makeS_127 (by decide) ?_
              refine lv_icmp_lt hx hb dX12_makeS_129 rfl (fun h => ?_) (fun h => ?_)
              · have hf := itp h hf
                refine lv_aload_n hx hb dX12_makeS_141 rfl (lv_at hl 2 rfl) ?_
                refine lv_iload_n hx hb dX12_makeS_142 rfl (lv_at hl 1 rfl) ?_
                refine lv_iload_n hx hb dX12_makeS_143 rfl (lv_at hl 0 rfl) ?_
                obtain ⟨r11, σ12, hc, hf⟩ := obd_some hf
                refine zr_callv (As := [.int x5, .int x6]) (rest := []) X J 0 ho_R_X12.1 ho_R_X12.2.1 ho_R_X12.2.2 yy_X12_goesOnE mw_methodLink_TinyCModel_445_TinyCModel_goesOnE_IIV (d := 2) (zR_ok (by omega) (by decide)) hl.1 rfl (Nat.le_of_ble_eq_true rfl) (tX12_goesOnE  hc) dX12_makeS_144 (fun H locs J => ?_)
                exact bX12_makeS_147 X ih  J (lv_sub hl [2] rfl) hf
              · have hf := itn h hf
                refine lv_aload_n hx hb dX12_makeS_132 rfl (lv_at hl 2 rfl) ?_
                refine lv_iload_n hx hb dX12_makeS_133 rfl (lv_at hl 1 rfl) ?_
                refine lv_iload_n hx hb dX12_makeS_134 rfl (lv_at hl 0 rfl) ?_
                obtain ⟨r13, σ14, hc, hf⟩ := obd_some hf
                refine zr_callv (As := [.int x5, .int x6]) (rest := []) X J 0 ho_R_X12.1 ho_R_X12.2.1 ho_R_X12.2.2 yy_X12_goesOnS mw_methodLink_TinyCModel_442_TinyCModel_goesOnS_IIV (d := 2) (zR_ok (by omega) (by decide)) hl.1 rfl (Nat.le_of_ble_eq_true rfl) (tX12_goesOnS  hc) dX12_makeS_135 (fun H locs J => ?_)
                refine lv_goto hx hb dX12_makeS_138 rfl ?_
                exact bX12_makeS_147 X ih  J (lv_sub hl [2] rfl) hf
            · have hf := itp h hf
              exact bX12_makeS_83 X ih  J (lv_sub hl [2, 1, 0] rfl) hf
        · have hf := itp h hf
          refine lv_aload_n hx hb dX12_makeS_65 rfl (lv_at hl 2 rfl) ?_
          refine lv_iload_n hx hb dX12_makeS_66 rfl (lv_at hl 0 rfl) ?_
          obtain ⟨r15, σ16, hc, hf⟩ := obd_some hf
          refine zr_callv (As := [.int x6]) (rest := []) X J 0 ho_R_X12.1 ho_R_X12.2.1 ho_R_X12.2.2 yy_X12_beginsE mw_methodLink_TinyCModel_439_TinyCModel_beginsE_IV (d := 1) (zR_ok (by omega) (by decide)) hl.1 rfl (Nat.le_of_ble_eq_true rfl) (tX12_beginsE  hc) dX12_makeS_67 (fun H locs J => ?_)
          refine lv_goto hx hb dX12_makeS_70 rfl ?_
          exact bX12_makeS_147 X ih  J (lv_sub hl [2] rfl) hf
      · have hf := itp h hf
        refine lv_aload_n hx hb dX12_makeS_52 rfl (lv_at hl 2 rfl) ?_
        refine lv_iload_n hx hb dX12_makeS_53 rfl (lv_at hl 0 rfl) ?_
        obtain ⟨r17, σ18, hc, hf⟩ := obd_some hf
        refine zr_callv (As := [.int x6]) (rest := []) X J 0 ho_R_X12.1 ho_R_X12.2.1 ho_R_X12.2.2 yy_X12_begins2 mw_methodLink_TinyCModel_436_TinyCModel_begins2_IV (d := 1) (zR_ok (by omega) (by decide)) hl.1 rfl (Nat.le_of_ble_eq_true rfl) (tX12_begins2  hc) dX12_makeS_54 (fun H locs J => ?_)
        refine lv_goto hx hb dX12_makeS_57 rfl ?_
        exact bX12_makeS_147 X ih  J (lv_sub hl [2] rfl) hf
set_option maxHeartbeats 4000000 in
theorem tX12_makeS {a1_ : Int32}  {σ u : zSt} {r : Unit} (hf : fX12_makeS N a1_ σ = some (r, u)) : zMv l yX12_makeS cX12_makeS 4 none (3) D cy shR ad ts lnR [.ref (ad 0), .int a1_] σ u := by
  refine zM_of (by decide) (Nat.le_of_ble_eq_true rfl) (fun p e s m args below meth c ls ha X J hl => ?_)
  have hx := X.1
  have hb := X.2.1
  have hl : lv_has ls 4 [(0, .ref (ad 0)), (1, .int a1_)] := hl
  generalize s.heap = H at J ⊢
  generalize ([] : List Loc) = locs at J ⊢
  show W p l e (zRm (3)) s m args below meth c H locs 0 0 (zQv D cy shR ad ts lnR below args s (r, u)) (F0 m 0 ls [])
  unfold fX12_makeS at hf
  refine lv_aload_n hx hb dX12_makeS_0 rfl (lv_at hl 0 rfl) ?_
  refine lv_iconst (v := (0 : Int32)) hx hb dX12_makeS_1 (by decide) ?_
  refine pf_X12_430 X J dX12_makeS_2 (fun σ1 H locs eq J => ?_)
  have hf := bnd_eq eq hf
  clear eq
  refine lv_aload_n hx hb dX12_makeS_5 rfl (lv_at hl 0 rfl) ?_
  refine lv_iconst (v := (0 : Int32)) hx hb dX12_makeS_6 (by decide) ?_
  refine lv_iload_n hx hb dX12_makeS_7 rfl (lv_at hl 1 rfl) ?_
  obtain ⟨r2, σ3, hc, hf⟩ := obd_some hf
  refine zr_callv (As := [.int (0 : Int32), .int a1_]) (rest := []) X J 0 ho_R_X12.1 ho_R_X12.2.1 ho_R_X12.2.2 yy_X12_task mw_methodLink_TinyCModel_433_TinyCModel_task_IIV (d := 0) (zR_ok (by omega) (by decide)) hl.1 rfl (Nat.le_of_ble_eq_true rfl) (tX12_task  hc) dX12_makeS_8 (fun H locs J => ?_)
  exact bX12_makeS_11 X  N _ _ _ _ J (lv_sub hl [0] rfl) hf
end
