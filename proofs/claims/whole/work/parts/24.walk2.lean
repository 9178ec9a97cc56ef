section
variable {p : Program} {l : Launch} {e : Env} {s : State} {m : MethodId} {args : Array Value} {below : List Frame} {meth : Method} {c : Code} {D : va_G} {cy : Nat → ClassId} {ad ts : Nat → Nat} {N : Nat}
set_option maxHeartbeats 4000000 in
theorem bX12_second_2 {o : Int32 × zSt} (X : zX p s m args meth c D cy shR ad ts cX12_second 4 (some .int) RX12)  : ∀ (n : Nat) (x2_ : Int32) (x3_ : Int32) (σ : zSt) (H : Heap) (locs : List Loc) (ls : Array Slot), zJ D cy shR ad lnR s σ H locs → lv_has ls 4 [(0, .ref (ad 0)), (2, .int x2_), (3, .int x3_)] → fX12_second_b2 N  n x2_ x3_ σ = some o → W p l e (zRm (0)) s m args below meth c H locs 0 0 (zQi D cy shR ad ts lnR below args s o) (F0 m 2 ls []) := by
  have hx := X.1
  have hb := X.2.1
  intro n
  induction n with
  | zero =>
    intro x2_ x3_ σ H locs ls J hl hf
    rw [fX12_second_b2] at hf
    cases hf
  | succ n ih =>
    intro x2_ x3_ σ H locs ls J hl hf
    rw [fX12_second_b2] at hf
    refine lv_aload_n hx hb dX12_second_2 rfl (lv_at hl 0 rfl) ?_
    refine gf_X12_96 X J dX12_second_3 ?_
    refine lv_aload_n hx hb dX12_second_6 rfl (lv_at hl 0 rfl) ?_
    refine gf_X12_370 X J dX12_second_7 ?_
    refine lv_iconst (v := (1 : Int32)) hx hb dX12_second_10 (by decide) ?_
    refine lv_isub hx hb dX12_second_11 ?_
    obtain ⟨hin, hf⟩ := itx hf
    refine al_X12_X12f55 X J hin dX12_second_12 ?_
    refine lv_iconst (v := (5 : Int32)) hx hb dX12_second_13 (by decide) ?_
    refine lv_icmp_ne hx hb dX12_second_14 rfl (fun h => ?_) (fun h => ?_)
    · have hf := itn h hf
      refine lv_iload_n hx hb dX12_second_70 rfl (lv_at hl 2 rfl) ?_
      exact zr_iret X J hf dX12_second_71
    · have hf := itp h hf
      refine lv_aload_n hx hb dX12_second_17 rfl (lv_at hl 0 rfl) ?_
      refine gf_X12_102 X J dX12_second_18 ?_
      refine lv_aload_n hx hb dX12_second_21 rfl (lv_at hl 0 rfl) ?_
      refine gf_X12_370 X J dX12_second_22 ?_
      refine lv_iconst (v := (1 : Int32)) hx hb dX12_second_25 (by decide) ?_
      refine lv_isub hx hb dX12_second_26 ?_
      obtain ⟨hin, hf⟩ := itx hf
      refine al_X12_X12f57 X J hin dX12_second_27 ?_
      refine lv_iload_n hx hb dX12_second_28 rfl (lv_at hl 1 rfl) ?_
      refine lv_icmp_lt hx hb dX12_second_29 rfl (fun h => ?_) (fun h => ?_)
      · have hf := itp h hf
        refine lv_iload_n hx hb dX12_second_70 rfl (lv_at hl 2 rfl) ?_
        exact zr_iret X J hf dX12_second_71
      · have hf := itn h hf
        refine lv_aload_n hx hb dX12_second_32 rfl (lv_at hl 0 rfl) ?_
        refine lv_dup hx hb dX12_second_33 rfl ?_
        refine gf_X12_370 X J dX12_second_34 ?_
        refine lv_iconst (v := (1 : Int32)) hx hb dX12_second_37 (by decide) ?_
        refine lv_isub hx hb dX12_second_38 ?_
        refine pf_X12_370 X J dX12_second_39 (fun σ1 H locs eq J => ?_)
        have hf := bnd_eq eq hf
        clear eq
        refine lv_aload_n hx hb dX12_second_42 rfl (lv_at hl 0 rfl) ?_
        refine gf_X12_59 X J dX12_second_43 ?_
        refine lv_aload_n hx hb dX12_second_46 rfl (lv_at hl 0 rfl) ?_
        refine gf_X12_99 X J dX12_second_47 ?_
        refine lv_aload_n hx hb dX12_second_50 rfl (lv_at hl 0 rfl) ?_
        refine gf_X12_370 X J dX12_second_51 ?_
        obtain ⟨hin, hf⟩ := itx hf
        refine al_X12_X12f56 X J hin dX12_second_54 ?_
        refine lv_iload_n hx hb dX12_second_55 rfl (lv_at hl 2 rfl) ?_
        obtain ⟨hin, hf⟩ := itx hf
        refine as_X12_X12f41 X J hin dX12_second_56 (fun σ2 H locs eq J => ?_)
        have hf := bnd_eq eq hf
        clear eq
        refine lv_aload_n hx hb dX12_second_57 rfl (lv_at hl 0 rfl) ?_
        refine gf_X12_99 X J dX12_second_58 ?_
        refine lv_aload_n hx hb dX12_second_61 rfl (lv_at hl 0 rfl) ?_
        refine gf_X12_370 X J dX12_second_62 ?_
        obtain ⟨hin, hf⟩ := itx hf
        refine al_X12_X12f56 X J hin dX12_second_65 ?_
        refine lv_topi (fun x3 eq => ?_)
        have hf := bnd_eq eq hf
        clear eq
        refine lv_istore_n hx hb dX12_second_66 rfl hl (by decide) rfl (fun ls hl => ?_)
        have hl : lv_has ls 4 [(3, .int x3), (0, .ref (ad 0)), (2, .int x2_)] := hl
        refine lv_goto hx hb dX12_second_67 rfl ?_
        exact ih _ _ _ _ _ _ J (lv_sub hl [1, 2, 0] rfl) hf
set_option maxHeartbeats 4000000 in
theorem tX12_second {a1_ : Int32} {a2_ : Int32}  {σ u : zSt} {r : Int32} (hf : fX12_second N a1_ a2_ σ = some (r, u)) : zMi l yX12_second cX12_second 4 (some .int) (0) D cy shR ad ts lnR [.ref (ad 0), .int a1_, .int a2_] σ r u := by
  refine zM_of (by decide) (Nat.le_of_ble_eq_true rfl) (fun p e s m args below meth c ls ha X J hl => ?_)
  have hx := X.1
  have hb := X.2.1
  have hl : lv_has ls 4 [(0, .ref (ad 0)), (1, .int a1_), (2, .int a2_)] := hl
  generalize s.heap = H at J ⊢
  generalize ([] : List Loc) = locs at J ⊢
  show W p l e (zRm (0)) s m args below meth c H locs 0 0 (zQi D cy shR ad ts lnR below args s (r, u)) (F0 m 0 ls [])
  unfold fX12_second at hf
  refine lv_iload_n hx hb dX12_second_0 rfl (lv_at hl 1 rfl) ?_
  refine lv_istore_n hx hb dX12_second_1 rfl hl (by decide) rfl (fun ls hl => ?_)
  have hl : lv_has ls 4 [(3, .int a1_), (0, .ref (ad 0)), (1, .int a1_), (2, .int a2_)] := hl
  exact bX12_second_2 X  N _ _ _ _ _ _ J (lv_sub hl [1, 3, 0] rfl) hf
set_option maxHeartbeats 4000000 in
theorem tX12_opOf {a0_ : Int64}  {σ u : zSt} {r : Int32} (hf : fX12_opOf N a0_ σ = some (r, u)) : zMi l yX12_opOf cX12_opOf 2 (some .int) (0) D cy shR ad ts lnR [.long a0_] σ r u := by
  refine zM_of (by decide) (Nat.le_of_ble_eq_true rfl) (fun p e s m args below meth c ls ha X J hl => ?_)
  have hx := X.1
  have hb := X.2.1
  have hl : lv_has ls 2 [(0, .long a0_)] := hl
  generalize s.heap = H at J ⊢
  generalize ([] : List Loc) = locs at J ⊢
  show W p l e (zRm (0)) s m args below meth c H locs 0 0 (zQi D cy shR ad ts lnR below args s (r, u)) (F0 m 0 ls [])
  unfold fX12_opOf at hf
  refine lv_lload_n hx hb dX12_opOf_0 rfl (lv_at hl 0 rfl) ?_
  refine lv_l2i hx hb dX12_opOf_1 rfl ?_
  refine lv_topi (fun x1 eq => ?_)
  have hf := bnd_eq eq hf
  clear eq
  by_cases h0_ : x1 = (38 : Int32)
  · have hf := itp h0_ hf
    rw [h0_]
    refine lv_lookup hx hb dX12_opOf_2 (by decide) (tgt := 138) (by rfl) (by decide) ?_
    refine lv_bipush (v := (12 : Int32)) hx hb dX12_opOf_138 (by decide) ?_
    exact zr_iret X J hf dX12_opOf_140
  have hf := itn h0_ hf
  by_cases h1_ : x1 = (42 : Int32)
  · have hf := itp h1_ hf
    rw [h1_]
    refine lv_lookup hx hb dX12_opOf_2 (by decide) (tgt := 171) (by rfl) (by decide) ?_
    refine lv_bipush (v := (23 : Int32)) hx hb dX12_opOf_171 (by decide) ?_
    exact zr_iret X J hf dX12_opOf_173
  have hf := itn h1_ hf
  by_cases h2_ : x1 = (43 : Int32)
  · have hf := itp h2_ hf
    rw [h2_]
    refine lv_lookup hx hb dX12_opOf_2 (by decide) (tgt := 165) (by rfl) (by decide) ?_
    refine lv_bipush (v := (21 : Int32)) hx hb dX12_opOf_165 (by decide) ?_
    exact zr_iret X J hf dX12_opOf_167
  have hf := itn h2_ hf
  by_cases h3_ : x1 = (45 : Int32)
  · have hf := itp h3_ hf
    rw [h3_]
    refine lv_lookup hx hb dX12_opOf_2 (by decide) (tgt := 168) (by rfl) (by decide) ?_
    refine lv_bipush (v := (22 : Int32)) hx hb dX12_opOf_168 (by decide) ?_
    exact zr_iret X J hf dX12_opOf_170
  have hf := itn h3_ hf
  by_cases h4_ : x1 = (47 : Int32)
  · have hf := itp h4_ hf
    rw [h4_]
    refine lv_lookup hx hb dX12_opOf_2 (by decide) (tgt := 174) (by rfl) (by decide) ?_
    refine lv_bipush (v := (27 : Int32)) hx hb dX12_opOf_174 (by decide) ?_
    exact zr_iret X J hf dX12_opOf_176
  have hf := itn h4_ hf
  by_cases h5_ : x1 = (60 : Int32)
  · have hf := itp h5_ hf
    rw [h5_]
    refine lv_lookup hx hb dX12_opOf_2 (by decide) (tgt := 147) (by rfl) (by decide) ?_
    refine lv_bipush (v := (15 : Int32)) hx hb dX12_opOf_147 (by decide) ?_
    exact zr_iret X J hf dX12_opOf_149
  have hf := itn h5_ hf
  by_cases h6_ : x1 = (62 : Int32)
  · have hf := itp h6_ hf
    rw [h6_]
    refine lv_lookup hx hb dX12_opOf_2 (by decide) (tgt := 153) (by rfl) (by decide) ?_
    refine lv_bipush (v := (17 : Int32)) hx hb dX12_opOf_153 (by decide) ?_
    exact zr_iret X J hf dX12_opOf_155
  have hf := itn h6_ hf
  by_cases h7_ : x1 = (94 : Int32)
  · have hf := itp h7_ hf
    rw [h7_]
    refine lv_lookup hx hb dX12_opOf_2 (by decide) (tgt := 135) (by rfl) (by decide) ?_
    refine lv_bipush (v := (11 : Int32)) hx hb dX12_opOf_135 (by decide) ?_
    exact zr_iret X J hf dX12_opOf_137
  have hf := itn h7_ hf
  by_cases h8_ : x1 = (124 : Int32)
  · have hf := itp h8_ hf
    rw [h8_]
    refine lv_lookup hx hb dX12_opOf_2 (by decide) (tgt := 132) (by rfl) (by decide) ?_
    refine lv_bipush (v := (10 : Int32)) hx hb dX12_opOf_132 (by decide) ?_
    exact zr_iret X J hf dX12_opOf_134
  have hf := itn h8_ hf
  by_cases h9_ : x1 = (8509 : Int32)
  · have hf := itp h9_ hf
    rw [h9_]
    refine lv_lookup hx hb dX12_opOf_2 (by decide) (tgt := 144) (by rfl) (by decide) ?_
    refine lv_bipush (v := (14 : Int32)) hx hb dX12_opOf_144 (by decide) ?_
    exact zr_iret X J hf dX12_opOf_146
  have hf := itn h9_ hf
  by_cases h10_ : x1 = (15420 : Int32)
  · have hf := itp h10_ hf
    rw [h10_]
    refine lv_lookup hx hb dX12_opOf_2 (by decide) (tgt := 159) (by rfl) (by decide) ?_
    refine lv_bipush (v := (19 : Int32)) hx hb dX12_opOf_159 (by decide) ?_
    exact zr_iret X J hf dX12_opOf_161
  have hf := itn h10_ hf
  by_cases h11_ : x1 = (15421 : Int32)
  · have hf := itp h11_ hf
    rw [h11_]
    refine lv_lookup hx hb dX12_opOf_2 (by decide) (tgt := 150) (by rfl) (by decide) ?_
    refine lv_bipush (v := (16 : Int32)) hx hb dX12_opOf_150 (by decide) ?_
    exact zr_iret X J hf dX12_opOf_152
  have hf := itn h11_ hf
  by_cases h12_ : x1 = (15677 : Int32)
  · have hf := itp h12_ hf
    rw [h12_]
    refine lv_lookup hx hb dX12_opOf_2 (by decide) (tgt := 141) (by rfl) (by decide) ?_
    refine lv_bipush (v := (13 : Int32)) hx hb dX12_opOf_141 (by decide) ?_
    exact zr_iret X J hf dX12_opOf_143
  have hf := itn h12_ hf
  by_cases h13_ : x1 = (15933 : Int32)
  · have hf := itp h13_ hf
    rw [h13_]
    refine lv_lookup hx hb dX12_opOf_2 (by decide) (tgt := 156) (by rfl) (by decide) ?_
    refine lv_bipush (v := (18 : Int32)) hx hb dX12_opOf_156 (by decide) ?_
    exact zr_iret X J hf dX12_opOf_158
  have hf := itn h13_ hf
  by_cases h14_ : x1 = (15934 : Int32)
  · have hf := itp h14_ hf
    rw [h14_]
    refine lv_lookup hx hb dX12_opOf_2 (by decide) (tgt := 162) (by rfl) (by decide) ?_
    refine lv_bipush (v := (20 : Int32)) hx hb dX12_opOf_162 (by decide) ?_
    exact zr_iret X J hf dX12_opOf_164
  have hf := itn h14_ hf
  refine lv_lookup hx hb dX12_opOf_2 (by decide) (off := 175) (tgt := 177) (by simp only []; rw [lv_osw h0_ (by decide), lv_osw h1_ (by decide), lv_osw h2_ (by decide), lv_osw h3_ (by decide), lv_osw h4_ (by decide), lv_osw h5_ (by decide), lv_osw h6_ (by decide), lv_osw h7_ (by decide), lv_osw h8_ (by decide), lv_osw h9_ (by decide), lv_osw h10_ (by decide), lv_osw h11_ (by decide), lv_osw h12_ (by decide), lv_osw h13_ (by decide), lv_osw h14_ (by decide)] <;> rfl) (by decide) ?_
  refine lv_bipush (v := (28 : Int32)) hx hb dX12_opOf_177 (by decide) ?_
  exact zr_iret X J hf dX12_opOf_179
set_option maxHeartbeats 4000000 in
theorem bX12_binary_45 {o : Unit × zSt} (X : zX p s m args meth c D cy shR ad ts cX12_binary 5 none RX12)  {x2_ : Int32} {x3_ : Int32} {s0_ : Int32}  {σ : zSt} {H : Heap} {locs : List Loc} {ls : Array Slot} (J : zJ D cy shR ad lnR s σ H locs) (hl : lv_has ls 5 [(0, .ref (ad 0)), (2, .int x2_), (3, .int x3_)]) (hf : fX12_binary_b45 N  x2_ x3_ s0_ σ = some o) : W p l e (zRm (3)) s m args below meth c H locs 0 0 (zQv D cy shR ad ts lnR below args s o) (F0 m 45 ls [.int s0_, .ref (ad 0)]) := by
  have hx := X.1
  have hb := X.2.1
  unfold fX12_binary_b45 at hf
  obtain ⟨r7, σ8, hc, hf⟩ := obd_some hf
  refine zr_calli (As := [.int s0_]) (rest := []) X J 0 ho_R_X12.1 ho_R_X12.2.1 ho_R_X12.2.2 yy_X12_node mw_methodLink_TinyCModel_330_TinyCModel_node_II (d := 0) (zR_ok (by omega) (by decide)) hl.1 rfl (Nat.le_of_ble_eq_true rfl) (tX12_node  hc) dX12_binary_45 (fun H locs J => ?_)
  refine lv_istore hx hb dX12_binary_48 hl (by decide) rfl (fun ls hl => ?_)
  have hl : lv_has ls 5 [(4, .int r7), (0, .ref (ad 0)), (2, .int x2_), (3, .int x3_)] := hl
  refine lv_aload_n hx hb dX12_binary_50 rfl (lv_at hl 1 rfl) ?_
  refine gf_X12_65 X J dX12_binary_51 ?_
  refine lv_iload hx hb dX12_binary_54 (lv_at hl 0 rfl) ?_
  refine lv_aload_n hx hb dX12_binary_56 rfl (lv_at hl 1 rfl) ?_
  refine gf_X12_202 X J dX12_binary_57 ?_
  obtain ⟨r9, σ10, hc, hf⟩ := obd_some hf
  refine zr_callSi (As := [.long (zL σ8 0 20)]) (rest := [.int r7, .ref (ad 19)]) X J yy_X12_opOf mw_methodLink_TinyCModel_398_TinyCModel_opOf_JI (d := 0) (zR_ok (by omega) (by decide)) hl.1 rfl (Nat.le_of_ble_eq_true rfl) (tX12_opOf  hc) dX12_binary_60 (fun H locs J => ?_)
  obtain ⟨hin, hf⟩ := itx hf
  refine as_X12_X12f43 X J hin dX12_binary_63 (fun σ11 H locs eq J => ?_)
  have hf := bnd_eq eq hf
  clear eq
  refine lv_aload_n hx hb dX12_binary_64 rfl (lv_at hl 1 rfl) ?_
  refine gf_X12_56 X J dX12_binary_65 ?_
  refine lv_iload hx hb dX12_binary_68 (lv_at hl 0 rfl) ?_
  refine lv_iload_n hx hb dX12_binary_70 rfl (lv_at hl 3 rfl) ?_
  obtain ⟨hin, hf⟩ := itx hf
  refine as_X12_X12f40 X J hin dX12_binary_71 (fun σ12 H locs eq J => ?_)
  have hf := bnd_eq eq hf
  clear eq
  refine lv_aload_n hx hb dX12_binary_72 rfl (lv_at hl 1 rfl) ?_
  refine lv_iconst (v := (5 : Int32)) hx hb dX12_binary_73 (by decide) ?_
  refine lv_iload hx hb dX12_binary_74 (lv_at hl 0 rfl) ?_
  refine lv_iload_n hx hb dX12_binary_76 rfl (lv_at hl 2 rfl) ?_
  obtain ⟨r13, σ14, hc, hf⟩ := obd_some hf
  refine zr_callv (As := [.int (5 : Int32), .int r7, .int x2_]) (rest := []) X J 0 ho_R_X12.1 ho_R_X12.2.1 ho_R_X12.2.2 yy_X12_waits mw_methodLink_TinyCModel_373_TinyCModel_waits_IIIV (d := 0) (zR_ok (by omega) (by decide)) hl.1 rfl (Nat.le_of_ble_eq_true rfl) (tX12_waits  hc) dX12_binary_77 (fun H locs J => ?_)
  refine lv_aload_n hx hb dX12_binary_80 rfl (lv_at hl 1 rfl) ?_
  obtain ⟨r15, σ16, hc, hf⟩ := obd_some hf
  refine zr_callv (As := []) (rest := []) X J 0 ho_R_X12.1 ho_R_X12.2.1 ho_R_X12.2.2 yy_X12_next mw_methodLink_TinyCModel_250_TinyCModel_next_V (d := 2) (zR_ok (by omega) (by decide)) hl.1 rfl (Nat.le_of_ble_eq_true rfl) (tX12_next  hc) dX12_binary_81 (fun H locs J => ?_)
  exact zr_vret X J hf dX12_binary_84
set_option maxHeartbeats 4000000 in
theorem tX12_binary {a1_ : Int32}  {σ u : zSt} {r : Unit} (hf : fX12_binary N a1_ σ = some (r, u)) : zMv l yX12_binary cX12_binary 5 none (3) D cy shR ad ts lnR [.ref (ad 0), .int a1_] σ u := by
  refine zM_of (by decide) (Nat.le_of_ble_eq_true rfl) (fun p e s m args below meth c ls ha X J hl => ?_)
  have hx := X.1
  have hb := X.2.1
  have hl : lv_has ls 5 [(0, .ref (ad 0)), (1, .int a1_)] := hl
  generalize s.heap = H at J ⊢
  generalize ([] : List Loc) = locs at J ⊢
  show W p l e (zRm (3)) s m args below meth c H locs 0 0 (zQv D cy shR ad ts lnR below args s (r, u)) (F0 m 0 ls [])
  unfold fX12_binary at hf
  refine lv_aload_n hx hb dX12_binary_0 rfl (lv_at hl 0 rfl) ?_
  refine gf_X12_202 X J dX12_binary_1 ?_
  obtain ⟨r1, σ2, hc, hf⟩ := obd_some hf
  refine zr_callSi (As := [.long (zL σ 0 20)]) (rest := []) X J yy_X12_level mw_methodLink_TinyCModel_386_TinyCModel_level_JI (d := 0) (zR_ok (by omega) (by decide)) hl.1 rfl (Nat.le_of_ble_eq_true rfl) (tX12_level  hc) dX12_binary_4 (fun H locs J => ?_)
  refine lv_istore_n hx hb dX12_binary_7 rfl hl (by decide) rfl (fun ls hl => ?_)
  have hl : lv_has ls 5 [(2, .int r1), (0, .ref (ad 0)), (1, .int a1_)] := hl
  refine lv_aload_n hx hb dX12_binary_8 rfl (lv_at hl 1 rfl) ?_
  refine lv_iload_n hx hb dX12_binary_9 rfl (lv_at hl 2 rfl) ?_
  refine lv_iload_n hx hb dX12_binary_10 rfl (lv_at hl 0 rfl) ?_
  obtain ⟨r3, σ4, hc, hf⟩ := obd_some hf
  refine zr_calli (As := [.int a1_, .int r1]) (rest := []) X J 0 ho_R_X12.1 ho_R_X12.2.1 ho_R_X12.2.2 yy_X12_second mw_methodLink_TinyCModel_392_TinyCModel_second_III (d := 0) (zR_ok (by omega) (by decide)) hl.1 rfl (Nat.le_of_ble_eq_true rfl) (tX12_second  hc) dX12_binary_11 (fun H locs J => ?_)
  refine lv_istore_n hx hb dX12_binary_14 rfl hl (by decide) rfl (fun ls hl => ?_)
  have hl : lv_has ls 5 [(3, .int r3), (2, .int r1), (0, .ref (ad 0)), (1, .int a1_)] := hl
  refine lv_aload_n hx hb dX12_binary_15 rfl (lv_at hl 2 rfl) ?_
  refine lv_aload_n hx hb dX12_binary_16 rfl (lv_at hl 2 rfl) ?_
  refine gf_X12_199 X J dX12_binary_17 ?_
  obtain ⟨r5, σ6, hc, hf⟩ := obd_some hf
  refine zr_callv (As := [.int (zI σ4 0 18)]) (rest := []) X J 0 ho_R_X12.1 ho_R_X12.2.1 ho_R_X12.2.2 yy_X12_four mw_methodLink_TinyCModel_293_TinyCModel_four_IV (d := 1) (zR_ok (by omega) (by decide)) hl.1 rfl (Nat.le_of_ble_eq_true rfl) (tX12_four  hc) dX12_binary_20 (fun H locs J => ?_)
  refine lv_aload_n hx hb dX12_binary_23 rfl (lv_at hl 2 rfl) ?_
  refine lv_iload_n hx hb dX12_binary_24 rfl (lv_at hl 1 rfl) ?_
  refine lv_if_ne hx hb dX12_binary_25 rfl (fun h => ?_) (fun h => ?_)
  · have hf := itn h hf
    refine lv_iload_n hx hb dX12_binary_33 rfl (lv_at hl 1 rfl) ?_
    refine lv_iconst (v := (1 : Int32)) hx hb dX12_binary_34 (by decide) ?_
    refine lv_icmp_ne hx hb dX12_binary_35 rfl (fun h => ?_) (fun h => ?_)
    · have hf := itn h hf
      refine lv_bipush (v := (6 : Int32)) hx hb dX12_binary_43 (by decide) ?_
      exact bX12_binary_45 X   J (lv_sub hl [2, 1, 0] rfl) hf
    · have hf := itp h hf
      refine lv_bipush (v := (7 : Int32)) hx hb dX12_binary_38 (by decide) ?_
      refine lv_goto hx hb dX12_binary_40 rfl ?_
      exact bX12_binary_45 X   J (lv_sub hl [2, 1, 0] rfl) hf
  · have hf := itp h hf
    refine lv_bipush (v := (8 : Int32)) hx hb dX12_binary_28 (by decide) ?_
    refine lv_goto hx hb dX12_binary_30 rfl ?_
    exact bX12_binary_45 X   J (lv_sub hl [2, 1, 0] rfl) hf
set_option maxHeartbeats 4000000 in
theorem bX12_endsOpen_123 {o : Int32 × zSt} (X : zX p s m args meth c D cy shR ad ts cX12_endsOpen 4 (some .int) RX12)  {x1_ : Int32} {x2_ : Int32} {x3_ : Int32}  {σ : zSt} {H : Heap} {locs : List Loc} {ls : Array Slot} (J : zJ D cy shR ad lnR s σ H locs) (hl : lv_has ls 4 [(0, .ref (ad 0)), (1, .int x1_), (2, .int x2_), (3, .int x3_)]) (hf : fX12_endsOpen_b123 N  x1_ x2_ x3_ σ = some o) : W p l e (zRm (6)) s m args below meth c H locs 0 0 (zQi D cy shR ad ts lnR below args s o) (F0 m 123 ls []) := by
  have hx := X.1
  have hb := X.2.1
  unfold fX12_endsOpen_b123 at hf
  refine lv_aload_n hx hb dX12_endsOpen_123 rfl (lv_at hl 0 rfl) ?_
  refine gf_X12_108 X J dX12_endsOpen_124 ?_
  refine lv_iload_n hx hb dX12_endsOpen_127 rfl (lv_at hl 2 rfl) ?_
  refine lv_iload_n hx hb dX12_endsOpen_128 rfl (lv_at hl 1 rfl) ?_
  obtain ⟨hin, hf⟩ := itx hf
  refine as_X12_X12f59 X J hin dX12_endsOpen_129 (fun σ12 H locs eq J => ?_)
  have hf := bnd_eq eq hf
  clear eq
  refine lv_aload_n hx hb dX12_endsOpen_130 rfl (lv_at hl 0 rfl) ?_
  refine gf_X12_68 X J dX12_endsOpen_131 ?_
  refine lv_iload_n hx hb dX12_endsOpen_134 rfl (lv_at hl 3 rfl) ?_
  refine lv_dup2_11 hx hb dX12_endsOpen_135 rfl rfl ?_
  obtain ⟨hin, hf⟩ := itx hf
  refine al_X12_X12f44 X J hin dX12_endsOpen_136 ?_
  refine lv_iconst (v := (1 : Int32)) hx hb dX12_endsOpen_137 (by decide) ?_
  refine lv_iadd hx hb dX12_endsOpen_138 ?_
  obtain ⟨hin, hf⟩ := itx hf
  refine as_X12_X12f44 X J hin dX12_endsOpen_139 (fun σ13 H locs eq J => ?_)
  have hf := bnd_eq eq hf
  clear eq
  refine lv_aload_n hx hb dX12_endsOpen_140 rfl (lv_at hl 0 rfl) ?_
  refine lv_bipush (v := (44 : Int32)) hx hb dX12_endsOpen_141 (by decide) ?_
  obtain ⟨r14, σ15, hc, hf⟩ := obd_some hf
  refine zr_calli (As := [.int (44 : Int32)]) (rest := []) X J 0 ho_R_X12.1 ho_R_X12.2.1 ho_R_X12.2.2 yy_X12_isSign mw_methodLink_TinyCModel_247_TinyCModel_isSign_IZ (d := 1) (zR_ok (by omega) (by decide)) hl.1 rfl (Nat.le_of_ble_eq_true rfl) (tX12_isSign  hc) dX12_endsOpen_143 (fun H locs J => ?_)
  refine lv_if_eq hx hb dX12_endsOpen_146 rfl (fun h => ?_) (fun h => ?_)
  · have hf := itp h hf
    refine lv_aload_n hx hb dX12_endsOpen_155 rfl (lv_at hl 0 rfl) ?_
    refine lv_bipush (v := (41 : Int32)) hx hb dX12_endsOpen_156 (by decide) ?_
    obtain ⟨r16, σ17, hc, hf⟩ := obd_some hf
    refine zr_calli (As := [.int (41 : Int32)]) (rest := []) X J 0 ho_R_X12.1 ho_R_X12.2.1 ho_R_X12.2.2 yy_X12_isSign mw_methodLink_TinyCModel_247_TinyCModel_isSign_IZ (d := 1) (zR_ok (by omega) (by decide)) hl.1 rfl (Nat.le_of_ble_eq_true rfl) (tX12_isSign  hc) dX12_endsOpen_158 (fun H locs J => ?_)
    refine lv_if_ne hx hb dX12_endsOpen_161 rfl (fun h => ?_) (fun h => ?_)
    · have hf := itn h hf
      refine lv_aload_n hx hb dX12_endsOpen_170 rfl (lv_at hl 0 rfl) ?_
      refine lv_iload_n hx hb dX12_endsOpen_171 rfl (lv_at hl 3 rfl) ?_
      refine lv_aload_n hx hb dX12_endsOpen_172 rfl (lv_at hl 0 rfl) ?_
      refine gf_X12_105 X J dX12_endsOpen_173 ?_
      refine lv_iload_n hx hb dX12_endsOpen_176 rfl (lv_at hl 2 rfl) ?_
      obtain ⟨hin, hf⟩ := itx hf
      refine al_X12_X12f58 X J hin dX12_endsOpen_177 ?_
      obtain ⟨r18, σ19, hc, hf⟩ := obd_some hf
      refine zr_calli (As := [.int x3_, .int (zA σ17 32 x2_.toNatClampNeg)]) (rest := []) X J 0 ho_R_X12.1 ho_R_X12.2.1 ho_R_X12.2.2 yy_X12_endsCall mw_methodLink_TinyCModel_401_TinyCModel_endsCall_III (d := 5) (zR_ok (by omega) (by decide)) hl.1 rfl (Nat.le_of_ble_eq_true rfl) (tX12_endsCall  hc) dX12_endsOpen_178 (fun H locs J => ?_)
      exact zr_iret X J hf dX12_endsOpen_181
    · have hf := itp h hf
      refine lv_aload_n hx hb dX12_endsOpen_164 rfl (lv_at hl 0 rfl) ?_
      obtain ⟨r20, σ21, hc, hf⟩ := obd_some hf
      refine zr_callv (As := []) (rest := []) X J 0 ho_R_X12.1 ho_R_X12.2.1 ho_R_X12.2.2 yy_X12_stray mw_methodLink_TinyCModel_253_TinyCModel_stray_V (d := 1) (zR_ok (by omega) (by decide)) hl.1 rfl (Nat.le_of_ble_eq_true rfl) (tX12_stray  hc) dX12_endsOpen_165 (fun H locs J => ?_)
      refine lv_iload_n hx hb dX12_endsOpen_168 rfl (lv_at hl 3 rfl) ?_
      exact zr_iret X J hf dX12_endsOpen_169
  · have hf := itn h hf
    refine lv_aload_n hx hb dX12_endsOpen_149 rfl (lv_at hl 0 rfl) ?_
    obtain ⟨r22, σ23, hc, hf⟩ := obd_some hf
    refine zr_callv (As := []) (rest := []) X J 0 ho_R_X12.1 ho_R_X12.2.1 ho_R_X12.2.2 yy_X12_next mw_methodLink_TinyCModel_250_TinyCModel_next_V (d := 2) (zR_ok (by omega) (by decide)) hl.1 rfl (Nat.le_of_ble_eq_true rfl) (tX12_next  hc) dX12_endsOpen_150 (fun H locs J => ?_)
    refine lv_iconst (v := (-1 : Int32)) hx hb dX12_endsOpen_153 (by decide) ?_
    exact zr_iret X J hf dX12_endsOpen_154
set_option maxHeartbeats 4000000 in
theorem tX12_endsOpen {a1_ : Int32}  {σ u : zSt} {r : Int32} (hf : fX12_endsOpen N a1_ σ = some (r, u)) : zMi l yX12_endsOpen cX12_endsOpen 4 (some .int) (6) D cy shR ad ts lnR [.ref (ad 0), .int a1_] σ r u := by
  refine zM_of (by decide) (Nat.le_of_ble_eq_true rfl) (fun p e s m args below meth c ls ha X J hl => ?_)
  have hx := X.1
  have hb := X.2.1
  have hl : lv_has ls 4 [(0, .ref (ad 0)), (1, .int a1_)] := hl
  generalize s.heap = H at J ⊢
  generalize ([] : List Loc) = locs at J ⊢
  show W p l e (zRm (6)) s m args below meth c H locs 0 0 (zQi D cy shR ad ts lnR below args s (r, u)) (F0 m 0 ls [])
  unfold fX12_endsOpen at hf
  refine lv_aload_n hx hb dX12_endsOpen_0 rfl (lv_at hl 0 rfl) ?_
  refine gf_X12_370 X J dX12_endsOpen_1 ?_
  refine lv_iconst (v := (1 : Int32)) hx hb dX12_endsOpen_4 (by decide) ?_
  refine lv_isub hx hb dX12_endsOpen_5 ?_
  refine lv_topi (fun x1 eq => ?_)
  have hf := bnd_eq eq hf
  clear eq
  refine lv_istore_n hx hb dX12_endsOpen_6 rfl hl (by decide) rfl (fun ls hl => ?_)
  have hl : lv_has ls 4 [(2, .int x1), (0, .ref (ad 0)), (1, .int a1_)] := hl
  refine lv_aload_n hx hb dX12_endsOpen_7 rfl (lv_at hl 1 rfl) ?_
  refine gf_X12_99 X J dX12_endsOpen_8 ?_
  refine lv_iload_n hx hb dX12_endsOpen_11 rfl (lv_at hl 0 rfl) ?_
  obtain ⟨hin, hf⟩ := itx hf
  refine al_X12_X12f56 X J hin dX12_endsOpen_12 ?_
  refine lv_topi (fun x2 eq => ?_)
  have hf := bnd_eq eq hf
  clear eq
  refine lv_istore_n hx hb dX12_endsOpen_13 rfl hl (by decide) rfl (fun ls hl => ?_)
  have hl : lv_has ls 4 [(3, .int x2), (2, .int x1), (0, .ref (ad 0)), (1, .int a1_)] := hl
  refine lv_aload_n hx hb dX12_endsOpen_14 rfl (lv_at hl 2 rfl) ?_
  refine gf_X12_96 X J dX12_endsOpen_15 ?_
  refine lv_iload_n hx hb dX12_endsOpen_18 rfl (lv_at hl 1 rfl) ?_
  obtain ⟨hin, hf⟩ := itx hf
  refine al_X12_X12f55 X J hin dX12_endsOpen_19 ?_
  refine lv_topi (fun x3 eq => ?_)
  have hf := bnd_eq eq hf
  clear eq
  by_cases h0_ : x3 = (1 : Int32)
  · have hf := itp h0_ hf
    rw [h0_]
    refine lv_tableIn hx hb dX12_endsOpen_20 (by decide) (by decide) (tgt := 48) (by rfl) (by decide) ?_
    refine lv_aload_n hx hb dX12_endsOpen_48 rfl (lv_at hl 2 rfl) ?_
    refine lv_bipush (v := (41 : Int32)) hx hb dX12_endsOpen_49 (by decide) ?_
    obtain ⟨r4, σ5, hc, hf⟩ := obd_some hf
    refine zr_callv (As := [.int (41 : Int32)]) (rest := []) X J 0 ho_R_X12.1 ho_R_X12.2.1 ho_R_X12.2.2 yy_X12_closes mw_methodLink_TinyCModel_307_TinyCModel_closes_IV (d := 4) (zR_ok (by omega) (by decide)) hl.1 rfl (Nat.le_of_ble_eq_true rfl) (tX12_closes  hc) dX12_endsOpen_51 (fun H locs J => ?_)
    refine lv_aload_n hx hb dX12_endsOpen_54 rfl (lv_at hl 2 rfl) ?_
    refine lv_dup hx hb dX12_endsOpen_55 rfl ?_
    refine gf_X12_370 X J dX12_endsOpen_56 ?_
    refine lv_iconst (v := (1 : Int32)) hx hb dX12_endsOpen_59 (by decide) ?_
    refine lv_isub hx hb dX12_endsOpen_60 ?_
    refine pf_X12_370 X J dX12_endsOpen_61 (fun σ6 H locs eq J => ?_)
    have hf := bnd_eq eq hf
    clear eq
    refine lv_iload_n hx hb dX12_endsOpen_64 rfl (lv_at hl 3 rfl) ?_
    exact zr_iret X J hf dX12_endsOpen_65
  have hf := itn h0_ hf
  by_cases h1_ : x3 = (2 : Int32)
  · have hf := itp h1_ hf
    rw [h1_]
    refine lv_tableIn hx hb dX12_endsOpen_20 (by decide) (by decide) (tgt := 66) (by rfl) (by decide) ?_
    refine lv_aload_n hx hb dX12_endsOpen_66 rfl (lv_at hl 2 rfl) ?_
    refine lv_bipush (v := (93 : Int32)) hx hb dX12_endsOpen_67 (by decide) ?_
    obtain ⟨r7, σ8, hc, hf⟩ := obd_some hf
    refine zr_callv (As := [.int (93 : Int32)]) (rest := []) X J 0 ho_R_X12.1 ho_R_X12.2.1 ho_R_X12.2.2 yy_X12_closes mw_methodLink_TinyCModel_307_TinyCModel_closes_IV (d := 4) (zR_ok (by omega) (by decide)) hl.1 rfl (Nat.le_of_ble_eq_true rfl) (tX12_closes  hc) dX12_endsOpen_69 (fun H locs J => ?_)
    refine lv_aload_n hx hb dX12_endsOpen_72 rfl (lv_at hl 2 rfl) ?_
    refine lv_dup hx hb dX12_endsOpen_73 rfl ?_
    refine gf_X12_370 X J dX12_endsOpen_74 ?_
    refine lv_iconst (v := (1 : Int32)) hx hb dX12_endsOpen_77 (by decide) ?_
    refine lv_isub hx hb dX12_endsOpen_78 ?_
    refine pf_X12_370 X J dX12_endsOpen_79 (fun σ9 H locs eq J => ?_)
    have hf := bnd_eq eq hf
    clear eq
    refine lv_aload_n hx hb dX12_endsOpen_82 rfl (lv_at hl 2 rfl) ?_
    refine gf_X12_56 X J dX12_endsOpen_83 ?_
    refine lv_iload_n hx hb dX12_endsOpen_86 rfl (lv_at hl 0 rfl) ?_
    refine lv_iload_n hx hb dX12_endsOpen_87 rfl (lv_at hl 3 rfl) ?_
    obtain ⟨hin, hf⟩ := itx hf
    refine as_X12_X12f40 X J hin dX12_endsOpen_88 (fun σ10 H locs eq J => ?_)
    have hf := bnd_eq eq hf
    clear eq
    refine lv_iload_n hx hb dX12_endsOpen_89 rfl (lv_at hl 0 rfl) ?_
    exact zr_iret X J hf dX12_endsOpen_90
  have hf := itn h1_ hf
  by_cases h2_ : x3 = (3 : Int32)
  · have hf := itp h2_ hf
    rw [h2_]
    refine lv_tableIn hx hb dX12_endsOpen_20 (by decide) (by decide) (tgt := 91) (by rfl) (by decide) ?_
    refine lv_aload_n hx hb dX12_endsOpen_91 rfl (lv_at hl 2 rfl) ?_
    refine gf_X12_108 X J dX12_endsOpen_92 ?_
    refine lv_iload_n hx hb dX12_endsOpen_95 rfl (lv_at hl 1 rfl) ?_
    obtain ⟨hin, hf⟩ := itx hf
    refine al_X12_X12f59 X J hin dX12_endsOpen_96 ?_
    refine lv_iconst (v := (-1 : Int32)) hx hb dX12_endsOpen_97 (by decide) ?_
    refine lv_icmp_ne hx hb dX12_endsOpen_98 rfl (fun h => ?_) (fun h => ?_)
    · have hf := itn h hf
      refine lv_aload_n hx hb dX12_endsOpen_111 rfl (lv_at hl 2 rfl) ?_
      refine gf_X12_71 X J dX12_endsOpen_112 ?_
      refine lv_aload_n hx hb dX12_endsOpen_115 rfl (lv_at hl 2 rfl) ?_
      refine gf_X12_108 X J dX12_endsOpen_116 ?_
      refine lv_iload_n hx hb dX12_endsOpen_119 rfl (lv_at hl 1 rfl) ?_
      obtain ⟨hin, hf⟩ := itx hf
      refine al_X12_X12f59 X J hin dX12_endsOpen_120 ?_
      refine lv_iload_n hx hb dX12_endsOpen_121 rfl (lv_at hl 3 rfl) ?_
      obtain ⟨hin, hf⟩ := itx hf
      refine as_X12_X12f45 X J hin dX12_endsOpen_122 (fun σ11 H locs eq J => ?_)
      have hf := bnd_eq eq hf
      clear eq
      exact bX12_endsOpen_123 X   J (lv_sub hl [2, 3, 1, 0] rfl) hf
    · have hf := itp h hf
      refine lv_aload_n hx hb dX12_endsOpen_101 rfl (lv_at hl 2 rfl) ?_
      refine gf_X12_56 X J dX12_endsOpen_102 ?_
      refine lv_iload_n hx hb dX12_endsOpen_105 rfl (lv_at hl 0 rfl) ?_
      refine lv_iload_n hx hb dX12_endsOpen_106 rfl (lv_at hl 3 rfl) ?_
      obtain ⟨hin, hf⟩ := itx hf
      refine as_X12_X12f40 X J hin dX12_endsOpen_107 (fun σ24 H locs eq J => ?_)
      have hf := bnd_eq eq hf
      clear eq
      refine lv_goto hx hb dX12_endsOpen_108 rfl ?_
      exact bX12_endsOpen_123 X   J (lv_sub hl [2, 3, 1, 0] rfl) hf
  have hf := itn h2_ hf
  refine lv_tableOut hx hb dX12_endsOpen_20 (tgt := 182) (by have := lv_neT h0_ (a := 1) (by decide); have := lv_neT h1_ (a := 2) (by decide); have := lv_neT h2_ (a := 3) (by decide); omega) (by decide) ?_
  refine lv_aload_n hx hb dX12_endsOpen_182 rfl (lv_at hl 2 rfl) ?_
  refine lv_dup hx hb dX12_endsOpen_183 rfl ?_
  refine gf_X12_370 X J dX12_endsOpen_184 ?_
  refine lv_iconst (v := (1 : Int32)) hx hb dX12_endsOpen_187 (by decide) ?_
  refine lv_isub hx hb dX12_endsOpen_188 ?_
  refine pf_X12_370 X J dX12_endsOpen_189 (fun σ25 H locs eq J => ?_)
  have hf := bnd_eq eq hf
  clear eq
  refine lv_iload_n hx hb dX12_endsOpen_192 rfl (lv_at hl 3 rfl) ?_
  exact zr_iret X J hf dX12_endsOpen_193
set_option maxHeartbeats 4000000 in
theorem bX12_works_135 {o : Int32 × zSt} (X : zX p s m args meth c D cy shR ad ts cX12_works 2 (some .int) RX12)  {x1_ : Int32}  {σ : zSt} {H : Heap} {locs : List Loc} {ls : Array Slot} (J : zJ D cy shR ad lnR s σ H locs) (hl : lv_has ls 2 [(1, .int x1_)]) (hf : fX12_works_b135 N  x1_ σ = some o) : W p l e (zRm (9)) s m args below meth c H locs 0 0 (zQi D cy shR ad ts lnR below args s o) (F0 m 135 ls []) := by
  have hx := X.1
  have hb := X.2.1
  unfold fX12_works_b135 at hf
  refine lv_iload_n hx hb dX12_works_135 rfl (lv_at hl 0 rfl) ?_
  refine lv_if_ge hx hb dX12_works_136 rfl (fun h => ?_) (fun h => ?_)
  · have hf := itp h hf
    refine lv_iload_n hx hb dX12_works_143 rfl (lv_at hl 0 rfl) ?_
    exact zr_iret X J hf dX12_works_144
  · have hf := itn h hf
    refine lv_iconst (v := (0 : Int32)) hx hb dX12_works_139 (by decide) ?_
    refine lv_goto hx hb dX12_works_140 rfl ?_
    exact zr_iret X J hf dX12_works_144
set_option maxHeartbeats 4000000 in
theorem bX12_works_119 {o : Int32 × zSt} (X : zX p s m args meth c D cy shR ad ts cX12_works 2 (some .int) RX12) {k2 : Int32 → zSt → Option (Int32 × zSt)} (hk2 : ∀ (x1_ : Int32) (σ : zSt) (H : Heap) (locs : List Loc) (ls : Array Slot), zJ D cy shR ad lnR s σ H locs → lv_has ls 2 [(0, .ref (ad 0)), (1, .int x1_)] → k2 x1_ σ = some o → W p l e (zRm (9)) s m args below meth c H locs 0 0 (zQi D cy shR ad ts lnR below args s o) (F0 m 2 ls [])) {x1_ : Int32}  {σ : zSt} {H : Heap} {locs : List Loc} {ls : Array Slot} (J : zJ D cy shR ad lnR s σ H locs) (hl : lv_has ls 2 [(0, .ref (ad 0)), (1, .int x1_)]) (hf : fX12_works_b119 N k2 x1_ σ = some o) : W p l e (zRm (9)) s m args below meth c H locs 0 0 (zQi D cy shR ad ts lnR below args s o) (F0 m 119 ls []) := by
  have hx := X.1
  have hb := X.2.1
  unfold fX12_works_b119 at hf
  refine lv_aload_n hx hb dX12_works_119 rfl (lv_at hl 0 rfl) ?_
  refine lv_iload_n hx hb dX12_works_120 rfl (lv_at hl 1 rfl) ?_
  refine lv_iconst (v := (-1 : Int32)) hx hb dX12_works_121 (by decide) ?_
  obtain ⟨r4, σ5, hc, hf⟩ := obd_some hf
  refine zr_calli (As := [.int x1_, .int (-1 : Int32)]) (rest := []) X J 0 ho_R_X12.1 ho_R_X12.2.1 ho_R_X12.2.2 yy_X12_second mw_methodLink_TinyCModel_392_TinyCModel_second_III (d := 0) (zR_ok (by omega) (by decide)) hl.1 rfl (Nat.le_of_ble_eq_true rfl) (tX12_second  hc) dX12_works_122 (fun H locs J => ?_)
  refine lv_istore_n hx hb dX12_works_125 rfl hl (by decide) rfl (fun ls hl => ?_)
  have hl : lv_has ls 2 [(1, .int r4), (0, .ref (ad 0))] := hl
  refine lv_aload_n hx hb dX12_works_126 rfl (lv_at hl 1 rfl) ?_
  refine lv_iload_n hx hb dX12_works_127 rfl (lv_at hl 0 rfl) ?_
  obtain ⟨r6, σ7, hc, hf⟩ := obd_some hf
  refine zr_calli (As := [.int r4]) (rest := []) X J 0 ho_R_X12.1 ho_R_X12.2.1 ho_R_X12.2.2 yy_X12_endsOpen mw_methodLink_TinyCModel_395_TinyCModel_endsOpen_II (d := 6) (zR_ok (by omega) (by decide)) hl.1 rfl (Nat.le_of_ble_eq_true rfl) (tX12_endsOpen  hc) dX12_works_128 (fun H locs J => ?_)
  refine lv_istore_n hx hb dX12_works_131 rfl hl (by decide) rfl (fun ls hl => ?_)
  have hl : lv_has ls 2 [(1, .int r6), (0, .ref (ad 0))] := hl
  refine lv_goto hx hb dX12_works_132 rfl ?_
  exact hk2 _ _ _ _ _ J (lv_sub hl [1, 0] rfl) hf
set_option maxHeartbeats 4000000 in
theorem bX12_works_28 {o : Int32 × zSt} (X : zX p s m args meth c D cy shR ad ts cX12_works 2 (some .int) RX12) {k2 : Int32 → zSt → Option (Int32 × zSt)} (hk2 : ∀ (x1_ : Int32) (σ : zSt) (H : Heap) (locs : List Loc) (ls : Array Slot), zJ D cy shR ad lnR s σ H locs → lv_has ls 2 [(0, .ref (ad 0)), (1, .int x1_)] → k2 x1_ σ = some o → W p l e (zRm (9)) s m args below meth c H locs 0 0 (zQi D cy shR ad ts lnR below args s o) (F0 m 2 ls [])) : ∀ (n : Nat) (x1_ : Int32) (σ : zSt) (H : Heap) (locs : List Loc) (ls : Array Slot), zJ D cy shR ad lnR s σ H locs → lv_has ls 2 [(0, .ref (ad 0)), (1, .int x1_)] → fX12_works_b28 N k2 n x1_ σ = some o → W p l e (zRm (9)) s m args below meth c H locs 0 0 (zQi D cy shR ad ts lnR below args s o) (F0 m 28 ls []) := by
  have hx := X.1
  have hb := X.2.1
  intro n
  induction n with
  | zero =>
    intro x1_ σ H locs ls J hl hf
    rw [fX12_works_b28] at hf
    cases hf
  | succ n ih =>
    intro x1_ σ H locs ls J hl hf
    rw [fX12_works_b28] at hf
    refine lv_aload_n hx hb dX12_works_28 rfl (lv_at hl 0 rfl) ?_
    refine gf_X12_96 X J dX12_works_29 ?_
    refine lv_aload_n hx hb dX12_works_32 rfl (lv_at hl 0 rfl) ?_
    refine gf_X12_370 X J dX12_works_33 ?_
    refine lv_iconst (v := (1 : Int32)) hx hb dX12_works_36 (by decide) ?_
    refine lv_isub hx hb dX12_works_37 ?_
    obtain ⟨hin, hf⟩ := itx hf
    refine al_X12_X12f55 X J hin dX12_works_38 ?_
    refine lv_iconst (v := (4 : Int32)) hx hb dX12_works_39 (by decide) ?_
    refine lv_icmp_ne hx hb dX12_works_40 rfl (fun h => ?_) (fun h => ?_)
    · have hf := itn h hf
      refine lv_aload_n hx hb dX12_works_91 rfl (lv_at hl 0 rfl) ?_
      refine gf_X12_206 X J dX12_works_92 ?_
      refine lv_iconst (v := (4 : Int32)) hx hb dX12_works_95 (by decide) ?_
      refine lv_icmp_ne hx hb dX12_works_96 rfl (fun h => ?_) (fun h => ?_)
      · have hf := itn h hf
        exact bX12_works_119 X hk2  J (lv_sub hl [0, 1] rfl) hf
      · have hf := itp h hf
        refine lv_aload_n hx hb dX12_works_99 rfl (lv_at hl 0 rfl) ?_
        refine gf_X12_202 X J dX12_works_100 ?_
        obtain ⟨r8, σ9, hc, hf⟩ := obd_some hf
        refine zr_callSi (As := [.long (zL σ 0 20)]) (rest := []) X J yy_X12_level mw_methodLink_TinyCModel_386_TinyCModel_level_JI (d := 0) (zR_ok (by omega) (by decide)) hl.1 rfl (Nat.le_of_ble_eq_true rfl) (tX12_level  hc) dX12_works_103 (fun H locs J => ?_)
        refine lv_if_lt hx hb dX12_works_106 rfl (fun h => ?_) (fun h => ?_)
        · have hf := itp h hf
          exact bX12_works_119 X hk2  J (lv_sub hl [0, 1] rfl) hf
        · have hf := itn h hf
          refine lv_aload_n hx hb dX12_works_109 rfl (lv_at hl 0 rfl) ?_
          refine lv_iload_n hx hb dX12_works_110 rfl (lv_at hl 1 rfl) ?_
          obtain ⟨r10, σ11, hc, hf⟩ := obd_some hf
          refine zr_callv (As := [.int x1_]) (rest := []) X J 0 ho_R_X12.1 ho_R_X12.2.1 ho_R_X12.2.2 yy_X12_binary mw_methodLink_TinyCModel_389_TinyCModel_binary_IV (d := 3) (zR_ok (by omega) (by decide)) hl.1 rfl (Nat.le_of_ble_eq_true rfl) (tX12_binary  hc) dX12_works_111 (fun H locs J => ?_)
          refine lv_iconst (v := (-1 : Int32)) hx hb dX12_works_114 (by decide) ?_
          refine lv_topi (fun x12 eq => ?_)
          have hf := bnd_eq eq hf
          clear eq
          refine lv_istore_n hx hb dX12_works_115 rfl hl (by decide) rfl (fun ls hl => ?_)
          have hl : lv_has ls 2 [(1, .int x12), (0, .ref (ad 0))] := hl
          refine lv_goto hx hb dX12_works_116 rfl ?_
          exact hk2 _ _ _ _ _ J (lv_sub hl [1, 0] rfl) hf
    · have hf := itp h hf
      refine lv_aload_n hx hb dX12_works_43 rfl (lv_at hl 0 rfl) ?_
      refine lv_dup hx hb dX12_works_44 rfl ?_
      refine gf_X12_370 X J dX12_works_45 ?_
      refine lv_iconst (v := (1 : Int32)) hx hb dX12_works_48 (by decide) ?_
      refine lv_isub hx hb dX12_works_49 ?_
      refine pf_X12_370 X J dX12_works_50 (fun σ13 H locs eq J => ?_)
      have hf := bnd_eq eq hf
      clear eq
      refine lv_aload_n hx hb dX12_works_53 rfl (lv_at hl 0 rfl) ?_
      refine lv_dup hx hb dX12_works_54 rfl ?_
      refine gf_X12_268 X J dX12_works_55 ?_
      refine lv_iconst (v := (1 : Int32)) hx hb dX12_works_58 (by decide) ?_
      refine lv_isub hx hb dX12_works_59 ?_
      refine pf_X12_268 X J dX12_works_60 (fun σ14 H locs eq J => ?_)
      have hf := bnd_eq eq hf
      clear eq
      refine lv_aload_n hx hb dX12_works_63 rfl (lv_at hl 0 rfl) ?_
      refine gf_X12_56 X J dX12_works_64 ?_
      refine lv_aload_n hx hb dX12_works_67 rfl (lv_at hl 0 rfl) ?_
      refine gf_X12_99 X J dX12_works_68 ?_
      refine lv_aload_n hx hb dX12_works_71 rfl (lv_at hl 0 rfl) ?_
      refine gf_X12_370 X J dX12_works_72 ?_
      obtain ⟨hin, hf⟩ := itx hf
      refine al_X12_X12f56 X J hin dX12_works_75 ?_
      refine lv_iload_n hx hb dX12_works_76 rfl (lv_at hl 1 rfl) ?_
      obtain ⟨hin, hf⟩ := itx hf
      refine as_X12_X12f40 X J hin dX12_works_77 (fun σ15 H locs eq J => ?_)
      have hf := bnd_eq eq hf
      clear eq
      refine lv_aload_n hx hb dX12_works_78 rfl (lv_at hl 0 rfl) ?_
      refine gf_X12_99 X J dX12_works_79 ?_
      refine lv_aload_n hx hb dX12_works_82 rfl (lv_at hl 0 rfl) ?_
      refine gf_X12_370 X J dX12_works_83 ?_
      obtain ⟨hin, hf⟩ := itx hf
      refine al_X12_X12f56 X J hin dX12_works_86 ?_
      refine lv_topi (fun x16 eq => ?_)
      have hf := bnd_eq eq hf
      clear eq
      refine lv_istore_n hx hb dX12_works_87 rfl hl (by decide) rfl (fun ls hl => ?_)
      have hl : lv_has ls 2 [(1, .int x16), (0, .ref (ad 0))] := hl
      refine lv_goto hx hb dX12_works_88 rfl ?_
      exact ih _ _ _ _ _ J (lv_sub hl [1, 0] rfl) hf
set_option maxHeartbeats 4000000 in
theorem bX12_works_2 {o : Int32 × zSt} (X : zX p s m args meth c D cy shR ad ts cX12_works 2 (some .int) RX12)  : ∀ (n : Nat) (x1_ : Int32) (σ : zSt) (H : Heap) (locs : List Loc) (ls : Array Slot), zJ D cy shR ad lnR s σ H locs → lv_has ls 2 [(0, .ref (ad 0)), (1, .int x1_)] → fX12_works_b2 N  n x1_ σ = some o → W p l e (zRm (9)) s m args below meth c H locs 0 0 (zQi D cy shR ad ts lnR below args s o) (F0 m 2 ls []) := by
  have hx := X.1
  have hb := X.2.1
  intro n
  induction n with
  | zero =>
    intro x1_ σ H locs ls J hl hf
    rw [fX12_works_b2] at hf
    cases hf
  | succ n ih =>
    intro x1_ σ H locs ls J hl hf
    rw [fX12_works_b2] at hf
    refine lv_aload_n hx hb dX12_works_2 rfl (lv_at hl 0 rfl) ?_
    obtain ⟨r2, σ3, hc, hf⟩ := obd_some hf
    refine zr_calli (As := []) (rest := []) X J 0 ho_R_X12.1 ho_R_X12.2.1 ho_R_X12.2.2 yy_X12_isWell mw_methodLink_TinyCModel_243_TinyCModel_isWell_Z (d := 0) (zR_ok (by omega) (by decide)) hl.1 rfl (Nat.le_of_ble_eq_true rfl) (tX12_isWell  hc) dX12_works_3 (fun H locs J => ?_)
    refine lv_if_eq hx hb dX12_works_6 rfl (fun h => ?_) (fun h => ?_)
    · have hf := itp h hf
      exact bX12_works_135 X   J (lv_sub hl [1] rfl) hf
    · have hf := itn h hf
      refine lv_aload_n hx hb dX12_works_9 rfl (lv_at hl 0 rfl) ?_
      refine gf_X12_370 X J dX12_works_10 ?_
      refine lv_if_le hx hb dX12_works_13 rfl (fun h => ?_) (fun h => ?_)
      · have hf := itp h hf
        exact bX12_works_135 X   J (lv_sub hl [1] rfl) hf
      · have hf := itn h hf
        refine lv_iload_n hx hb dX12_works_16 rfl (lv_at hl 1 rfl) ?_
        refine lv_if_ge hx hb dX12_works_17 rfl (fun h => ?_) (fun h => ?_)
        · have hf := itp h hf
          exact bX12_works_28 X ih N _ _ _ _ _ J (lv_sub hl [0, 1] rfl) hf
        · have hf := itn h hf
          refine lv_aload_n hx hb dX12_works_20 rfl (lv_at hl 0 rfl) ?_
          obtain ⟨r17, σ18, hc, hf⟩ := obd_some hf
          refine zr_calli (As := []) (rest := []) X J 0 ho_R_X12.1 ho_R_X12.2.1 ho_R_X12.2.2 yy_X12_part mw_methodLink_TinyCModel_383_TinyCModel_part_I (d := 8) (zR_ok (by omega) (by decide)) hl.1 rfl (Nat.le_of_ble_eq_true rfl) (tX12_part  hc) dX12_works_21 (fun H locs J => ?_)
          refine lv_istore_n hx hb dX12_works_24 rfl hl (by decide) rfl (fun ls hl => ?_)
          have hl : lv_has ls 2 [(1, .int r17), (0, .ref (ad 0))] := hl
          refine lv_goto hx hb dX12_works_25 rfl ?_
          exact ih _ _ _ _ _ J (lv_sub hl [1, 0] rfl) hf
set_option maxHeartbeats 4000000 in
theorem tX12_works   {σ u : zSt} {r : Int32} (hf : fX12_works N  σ = some (r, u)) : zMi l yX12_works cX12_works 2 (some .int) (9) D cy shR ad ts lnR [.ref (ad 0)] σ r u := by
  refine zM_of (by decide) (Nat.le_of_ble_eq_true rfl) (fun p e s m args below meth c ls ha X J hl => ?_)
  have hx := X.1
  have hb := X.2.1
  have hl : lv_has ls 2 [(0, .ref (ad 0))] := hl
  generalize s.heap = H at J ⊢
  generalize ([] : List Loc) = locs at J ⊢
  show W p l e (zRm (9)) s m args below meth c H locs 0 0 (zQi D cy shR ad ts lnR below args s (r, u)) (F0 m 0 ls [])
  unfold fX12_works at hf
  refine lv_iconst (v := (-1 : Int32)) hx hb dX12_works_0 (by decide) ?_
  refine lv_topi (fun x1 eq => ?_)
  have hf := bnd_eq eq hf
  clear eq
  refine lv_istore_n hx hb dX12_works_1 rfl hl (by decide) rfl (fun ls hl => ?_)
  have hl : lv_has ls 2 [(1, .int x1), (0, .ref (ad 0))] := hl
  exact bX12_works_2 X  N _ _ _ _ _ J (lv_sub hl [1, 0] rfl) hf
set_option maxHeartbeats 4000000 in
theorem tX12_expression {a1_ : Int32}  {σ u : zSt} {r : Int32} (hf : fX12_expression N a1_ σ = some (r, u)) : zMi l yX12_expression cX12_expression 2 (some .int) (10) D cy shR ad ts lnR [.ref (ad 0), .int a1_] σ r u := by
  refine zM_of (by decide) (Nat.le_of_ble_eq_true rfl) (fun p e s m args below meth c ls ha X J hl => ?_)
  have hx := X.1
  have hb := X.2.1
  have hl : lv_has ls 2 [(0, .ref (ad 0)), (1, .int a1_)] := hl
  generalize s.heap = H at J ⊢
  generalize ([] : List Loc) = locs at J ⊢
  show W p l e (zRm (10)) s m args below meth c H locs 0 0 (zQi D cy shR ad ts lnR below args s (r, u)) (F0 m 0 ls [])
  unfold fX12_expression at hf
  refine lv_aload_n hx hb dX12_expression_0 rfl (lv_at hl 0 rfl) ?_
  refine lv_iconst (v := (0 : Int32)) hx hb dX12_expression_1 (by decide) ?_
  refine pf_X12_370 X J dX12_expression_2 (fun σ1 H locs eq J => ?_)
  have hf := bnd_eq eq hf
  clear eq
  refine lv_aload_n hx hb dX12_expression_5 rfl (lv_at hl 0 rfl) ?_
  refine lv_iconst (v := (0 : Int32)) hx hb dX12_expression_6 (by decide) ?_
  refine lv_iconst (v := (-1 : Int32)) hx hb dX12_expression_7 (by decide) ?_
  refine lv_iload_n hx hb dX12_expression_8 rfl (lv_at hl 1 rfl) ?_
  obtain ⟨r2, σ3, hc, hf⟩ := obd_some hf
  refine zr_callv (As := [.int (0 : Int32), .int (-1 : Int32), .int a1_]) (rest := []) X J 0 ho_R_X12.1 ho_R_X12.2.1 ho_R_X12.2.2 yy_X12_waits mw_methodLink_TinyCModel_373_TinyCModel_waits_IIIV (d := 0) (zR_ok (by omega) (by decide)) hl.1 rfl (Nat.le_of_ble_eq_true rfl) (tX12_waits  hc) dX12_expression_9 (fun H locs J => ?_)
  refine lv_aload_n hx hb dX12_expression_12 rfl (lv_at hl 0 rfl) ?_
  obtain ⟨r4, σ5, hc, hf⟩ := obd_some hf
  refine zr_calli (As := []) (rest := []) X J 0 ho_R_X12.1 ho_R_X12.2.1 ho_R_X12.2.2 yy_X12_works mw_methodLink_TinyCModel_377_TinyCModel_works_I (d := 9) (zR_ok (by omega) (by decide)) hl.1 rfl (Nat.le_of_ble_eq_true rfl) (tX12_works  hc) dX12_expression_13 (fun H locs J => ?_)
  exact zr_iret X J hf dX12_expression_16
set_option maxHeartbeats 4000000 in
theorem bX12_tellLocal_194 {o : Int32 × zSt} (X : zX p s m args meth c D cy shR ad ts cX12_tellLocal 5 (some .int) RX12)  {x1_ : Int32} {s0_ : Int32} {s1_ : Int32}  {σ : zSt} {H : Heap} {locs : List Loc} {ls : Array Slot} (J : zJ D cy shR ad lnR s σ H locs) (hl : lv_has ls 5 [(1, .int x1_)]) (hf : fX12_tellLocal_b194 N  x1_ s0_ s1_ σ = some o) : W p l e (zRm (11)) s m args below meth c H locs 0 0 (zQi D cy shR ad ts lnR below args s o) (F0 m 194 ls [.int s0_, .int s1_, .ref (ad 12)]) := by
  have hx := X.1
  have hb := X.2.1
  unfold fX12_tellLocal_b194 at hf
  obtain ⟨hin, hf⟩ := itx hf
  refine as_X12_X12f28 X J hin dX12_tellLocal_194 (fun σ21 H locs eq J => ?_)
  have hf := bnd_eq eq hf
  clear eq
  refine lv_iload_n hx hb dX12_tellLocal_195 rfl (lv_at hl 0 rfl) ?_
  exact zr_iret X J hf dX12_tellLocal_196
set_option maxHeartbeats 4000000 in
theorem bX12_tellLocal_86 {o : Int32 × zSt} (X : zX p s m args meth c D cy shR ad ts cX12_tellLocal 5 (some .int) RX12)  {x1_ : Int32} {x2_ : Int64}  {σ : zSt} {H : Heap} {locs : List Loc} {ls : Array Slot} (J : zJ D cy shR ad lnR s σ H locs) (hl : lv_has ls 5 [(0, .ref (ad 0)), (1, .int x1_), (2, .long x2_)]) (hf : fX12_tellLocal_b86 N  x1_ x2_ σ = some o) : W p l e (zRm (11)) s m args below meth c H locs 0 0 (zQi D cy shR ad ts lnR below args s o) (F0 m 86 ls []) := by
  have hx := X.1
  have hb := X.2.1
  unfold fX12_tellLocal_b86 at hf
  refine lv_aload_n hx hb dX12_tellLocal_86 rfl (lv_at hl 0 rfl) ?_
  refine lv_bipush (v := (59 : Int32)) hx hb dX12_tellLocal_87 (by decide) ?_
  obtain ⟨r12, σ13, hc, hf⟩ := obd_some hf
  refine zr_callv (As := [.int (59 : Int32)]) (rest := []) X J 0 ho_R_X12.1 ho_R_X12.2.1 ho_R_X12.2.2 yy_X12_takes mw_methodLink_TinyCModel_274_TinyCModel_takes_IV (d := 3) (zR_ok (by omega) (by decide)) hl.1 rfl (Nat.le_of_ble_eq_true rfl) (tX12_takes  hc) dX12_tellLocal_89 (fun H locs J => ?_)
  refine lv_aload_n hx hb dX12_tellLocal_92 rfl (lv_at hl 0 rfl) ?_
  obtain ⟨r14, σ15, hc, hf⟩ := obd_some hf
  refine zr_calli (As := []) (rest := []) X J 0 ho_R_X12.1 ho_R_X12.2.1 ho_R_X12.2.2 yy_X12_isWell mw_methodLink_TinyCModel_243_TinyCModel_isWell_Z (d := 0) (zR_ok (by omega) (by decide)) hl.1 rfl (Nat.le_of_ble_eq_true rfl) (tX12_isWell  hc) dX12_tellLocal_93 (fun H locs J => ?_)
  refine lv_if_ne hx hb dX12_tellLocal_96 rfl (fun h => ?_) (fun h => ?_)
  · have hf := itn h hf
    refine lv_aload_n hx hb dX12_tellLocal_101 rfl (lv_at hl 0 rfl) ?_
    refine gf_X12_47 X J dX12_tellLocal_102 ?_
    refine lv_aload_n hx hb dX12_tellLocal_105 rfl (lv_at hl 0 rfl) ?_
    refine gf_X12_259 X J dX12_tellLocal_106 ?_
    refine lv_lload_n hx hb dX12_tellLocal_109 rfl (lv_at hl 2 rfl) ?_
    obtain ⟨hin, hf⟩ := itx hf
    refine as_X12_X12f31 X J hin dX12_tellLocal_110 (fun σ16 H locs eq J => ?_)
    have hf := bnd_eq eq hf
    clear eq
    refine lv_aload_n hx hb dX12_tellLocal_111 rfl (lv_at hl 0 rfl) ?_
    refine gf_X12_50 X J dX12_tellLocal_112 ?_
    refine lv_aload_n hx hb dX12_tellLocal_115 rfl (lv_at hl 0 rfl) ?_
    refine gf_X12_259 X J dX12_tellLocal_116 ?_
    refine lv_aload_n hx hb dX12_tellLocal_119 rfl (lv_at hl 0 rfl) ?_
    refine gf_X12_315 X J dX12_tellLocal_120 ?_
    obtain ⟨hin, hf⟩ := itx hf
    refine as_X12_X12f32 X J hin dX12_tellLocal_123 (fun σ17 H locs eq J => ?_)
    have hf := bnd_eq eq hf
    clear eq
    refine lv_aload_n hx hb dX12_tellLocal_124 rfl (lv_at hl 0 rfl) ?_
    refine gf_X12_65 X J dX12_tellLocal_125 ?_
    refine lv_iload_n hx hb dX12_tellLocal_128 rfl (lv_at hl 1 rfl) ?_
    refine lv_aload_n hx hb dX12_tellLocal_129 rfl (lv_at hl 0 rfl) ?_
    refine gf_X12_315 X J dX12_tellLocal_130 ?_
    obtain ⟨hin, hf⟩ := itx hf
    refine as_X12_X12f43 X J hin dX12_tellLocal_133 (fun σ18 H locs eq J => ?_)
    have hf := bnd_eq eq hf
    clear eq
    refine lv_aload_n hx hb dX12_tellLocal_134 rfl (lv_at hl 0 rfl) ?_
    refine lv_dup hx hb dX12_tellLocal_135 rfl ?_
    refine gf_X12_259 X J dX12_tellLocal_136 ?_
    refine lv_iconst (v := (1 : Int32)) hx hb dX12_tellLocal_139 (by decide) ?_
    refine lv_iadd hx hb dX12_tellLocal_140 ?_
    refine pf_X12_259 X J dX12_tellLocal_141 (fun σ19 H locs eq J => ?_)
    have hf := bnd_eq eq hf
    clear eq
    refine lv_aload_n hx hb dX12_tellLocal_144 rfl (lv_at hl 0 rfl) ?_
    refine lv_dup hx hb dX12_tellLocal_145 rfl ?_
    refine gf_X12_315 X J dX12_tellLocal_146 ?_
    refine lv_iconst (v := (1 : Int32)) hx hb dX12_tellLocal_149 (by decide) ?_
    refine lv_iadd hx hb dX12_tellLocal_150 ?_
    refine pf_X12_315 X J dX12_tellLocal_151 (fun σ20 H locs eq J => ?_)
    have hf := bnd_eq eq hf
    clear eq
    refine lv_aload_n hx hb dX12_tellLocal_154 rfl (lv_at hl 0 rfl) ?_
    refine gf_X12_44 X J dX12_tellLocal_155 ?_
    refine lv_aload_n hx hb dX12_tellLocal_158 rfl (lv_at hl 0 rfl) ?_
    refine gf_X12_312 X J dX12_tellLocal_159 ?_
    refine lv_aload_n hx hb dX12_tellLocal_162 rfl (lv_at hl 0 rfl) ?_
    refine gf_X12_315 X J dX12_tellLocal_163 ?_
    refine lv_aload_n hx hb dX12_tellLocal_166 rfl (lv_at hl 0 rfl) ?_
    refine gf_X12_44 X J dX12_tellLocal_167 ?_
    refine lv_aload_n hx hb dX12_tellLocal_170 rfl (lv_at hl 0 rfl) ?_
    refine gf_X12_312 X J dX12_tellLocal_171 ?_
    obtain ⟨hin, hf⟩ := itx hf
    refine al_X12_X12f28 X J hin dX12_tellLocal_174 ?_
    refine lv_icmp_le hx hb dX12_tellLocal_175 rfl (fun h => ?_) (fun h => ?_)
    · have hf := itp h hf
      refine lv_aload_n hx hb dX12_tellLocal_185 rfl (lv_at hl 0 rfl) ?_
      refine gf_X12_44 X J dX12_tellLocal_186 ?_
      refine lv_aload_n hx hb dX12_tellLocal_189 rfl (lv_at hl 0 rfl) ?_
      refine gf_X12_312 X J dX12_tellLocal_190 ?_
      obtain ⟨hin, hf⟩ := itx hf
      refine al_X12_X12f28 X J hin dX12_tellLocal_193 ?_
      exact bX12_tellLocal_194 X   J (lv_sub hl [1] rfl) hf
    · have hf := itn h hf
      refine lv_aload_n hx hb dX12_tellLocal_178 rfl (lv_at hl 0 rfl) ?_
      refine gf_X12_315 X J dX12_tellLocal_179 ?_
      refine lv_goto hx hb dX12_tellLocal_182 rfl ?_
      exact bX12_tellLocal_194 X   J (lv_sub hl [1] rfl) hf
  · have hf := itp h hf
    refine lv_iload_n hx hb dX12_tellLocal_99 rfl (lv_at hl 1 rfl) ?_
    exact zr_iret X J hf dX12_tellLocal_100
set_option maxHeartbeats 4000000 in
theorem tX12_tellLocal   {σ u : zSt} {r : Int32} (hf : fX12_tellLocal N  σ = some (r, u)) : zMi l yX12_tellLocal cX12_tellLocal 5 (some .int) (11) D cy shR ad ts lnR [.ref (ad 0)] σ r u := by
  refine zM_of (by decide) (Nat.le_of_ble_eq_true rfl) (fun p e s m args below meth c ls ha X J hl => ?_)
  have hx := X.1
  have hb := X.2.1
  have hl : lv_has ls 5 [(0, .ref (ad 0))] := hl
  generalize s.heap = H at J ⊢
  generalize ([] : List Loc) = locs at J ⊢
  show W p l e (zRm (11)) s m args below meth c H locs 0 0 (zQi D cy shR ad ts lnR below args s (r, u)) (F0 m 0 ls [])
  unfold fX12_tellLocal at hf
  refine lv_aload_n hx hb dX12_tellLocal_0 rfl (lv_at hl 0 rfl) ?_
  refine lv_bipush (v := (21 : Int32)) hx hb dX12_tellLocal_1 (by decide) ?_
  obtain ⟨r1, σ2, hc, hf⟩ := obd_some hf
  refine zr_calli (As := [.int (21 : Int32)]) (rest := []) X J 0 ho_R_X12.1 ho_R_X12.2.1 ho_R_X12.2.2 yy_X12_node mw_methodLink_TinyCModel_330_TinyCModel_node_II (d := 0) (zR_ok (by omega) (by decide)) hl.1 rfl (Nat.le_of_ble_eq_true rfl) (tX12_node  hc) dX12_tellLocal_3 (fun H locs J => ?_)
  refine lv_istore_n hx hb dX12_tellLocal_6 rfl hl (by decide) rfl (fun ls hl => ?_)
  have hl : lv_has ls 5 [(1, .int r1), (0, .ref (ad 0))] := hl
  refine lv_aload_n hx hb dX12_tellLocal_7 rfl (lv_at hl 1 rfl) ?_
  obtain ⟨r3, σ4, hc, hf⟩ := obd_some hf
  refine zr_callv (As := []) (rest := []) X J 0 ho_R_X12.1 ho_R_X12.2.1 ho_R_X12.2.2 yy_X12_next mw_methodLink_TinyCModel_250_TinyCModel_next_V (d := 2) (zR_ok (by omega) (by decide)) hl.1 rfl (Nat.le_of_ble_eq_true rfl) (tX12_next  hc) dX12_tellLocal_8 (fun H locs J => ?_)
  refine lv_aload_n hx hb dX12_tellLocal_11 rfl (lv_at hl 1 rfl) ?_
  refine gf_X12_206 X J dX12_tellLocal_12 ?_
  refine lv_iconst (v := (1 : Int32)) hx hb dX12_tellLocal_15 (by decide) ?_
  refine lv_icmp_eq hx hb dX12_tellLocal_16 rfl (fun h => ?_) (fun h => ?_)
  · have hf := itp h hf
    refine lv_aload_n hx hb dX12_tellLocal_25 rfl (lv_at hl 1 rfl) ?_
    refine gf_X12_202 X J dX12_tellLocal_26 ?_
    refine lv_topl (fun x5 eq => ?_)
    have hf := bnd_eq eq hf
    clear eq
    refine lv_lstore_n hx hb dX12_tellLocal_29 rfl hl (by decide) rfl (fun ls hl => ?_)
    have hl : lv_has ls 5 [(2, .long x5), (1, .int r1), (0, .ref (ad 0))] := hl
    refine lv_aload_n hx hb dX12_tellLocal_30 rfl (lv_at hl 2 rfl) ?_
    refine lv_lload_n hx hb dX12_tellLocal_31 rfl (lv_at hl 0 rfl) ?_
    obtain ⟨r6, σ7, hc, hf⟩ := obd_some hf
    refine zr_calli (As := [.long x5]) (rest := []) X J 0 ho_R_X12.1 ho_R_X12.2.1 ho_R_X12.2.2 yy_X12_localOf mw_methodLink_TinyCModel_324_TinyCModel_localOf_JI (d := 0) (zR_ok (by omega) (by decide)) hl.1 rfl (Nat.le_of_ble_eq_true rfl) (tX12_localOf  hc) dX12_tellLocal_32 (fun H locs J => ?_)
    refine lv_istore hx hb dX12_tellLocal_35 hl (by decide) rfl (fun ls hl => ?_)
    have hl : lv_has ls 5 [(4, .int r6), (2, .long x5), (1, .int r1), (0, .ref (ad 0))] := hl
    refine lv_iload hx hb dX12_tellLocal_37 (lv_at hl 0 rfl) ?_
    refine lv_aload_n hx hb dX12_tellLocal_39 rfl (lv_at hl 3 rfl) ?_
    refine gf_X12_333 X J dX12_tellLocal_40 ?_
    refine lv_icmp_lt hx hb dX12_tellLocal_43 rfl (fun h => ?_) (fun h => ?_)
    · have hf := itp h hf
      refine lv_aload_n hx hb dX12_tellLocal_57 rfl (lv_at hl 3 rfl) ?_
      obtain ⟨r8, σ9, hc, hf⟩ := obd_some hf
      refine zr_callv (As := []) (rest := []) X J 0 ho_R_X12.1 ho_R_X12.2.1 ho_R_X12.2.2 yy_X12_next mw_methodLink_TinyCModel_250_TinyCModel_next_V (d := 2) (zR_ok (by omega) (by decide)) hl.1 rfl (Nat.le_of_ble_eq_true rfl) (tX12_next  hc) dX12_tellLocal_58 (fun H locs J => ?_)
      refine lv_aload_n hx hb dX12_tellLocal_61 rfl (lv_at hl 3 rfl) ?_
      refine lv_bipush (v := (61 : Int32)) hx hb dX12_tellLocal_62 (by decide) ?_
      obtain ⟨r10, σ11, hc, hf⟩ := obd_some hf
      refine zr_calli (As := [.int (61 : Int32)]) (rest := []) X J 0 ho_R_X12.1 ho_R_X12.2.1 ho_R_X12.2.2 yy_X12_isSign mw_methodLink_TinyCModel_247_TinyCModel_isSign_IZ (d := 1) (zR_ok (by omega) (by decide)) hl.1 rfl (Nat.le_of_ble_eq_true rfl) (tX12_isSign  hc) dX12_tellLocal_64 (fun H locs J => ?_)
      refine lv_if_eq hx hb dX12_tellLocal_67 rfl (fun h => ?_) (fun h => ?_)
      · have hf := itp h hf
        exact bX12_tellLocal_86 X   J (lv_sub hl [3, 2, 1] rfl) hf
      · have hf := itn h hf
        refine lv_aload_n hx hb dX12_tellLocal_70 rfl (lv_at hl 3 rfl) ?_
        obtain ⟨r22, σ23, hc, hf⟩ := obd_some hf
        refine zr_callv (As := []) (rest := []) X J 0 ho_R_X12.1 ho_R_X12.2.1 ho_R_X12.2.2 yy_X12_next mw_methodLink_TinyCModel_250_TinyCModel_next_V (d := 2) (zR_ok (by omega) (by decide)) hl.1 rfl (Nat.le_of_ble_eq_true rfl) (tX12_next  hc) dX12_tellLocal_71 (fun H locs J => ?_)
        refine lv_aload_n hx hb dX12_tellLocal_74 rfl (lv_at hl 3 rfl) ?_
        refine gf_X12_56 X J dX12_tellLocal_75 ?_
        refine lv_iload_n hx hb dX12_tellLocal_78 rfl (lv_at hl 2 rfl) ?_
        refine lv_aload_n hx hb dX12_tellLocal_79 rfl (lv_at hl 3 rfl) ?_
        refine lv_bipush (v := (59 : Int32)) hx hb dX12_tellLocal_80 (by decide) ?_
        obtain ⟨r24, σ25, hc, hf⟩ := obd_some hf
        refine zr_calli (As := [.int (59 : Int32)]) (rest := [.int r1, .ref (ad 16)]) X J 0 ho_R_X12.1 ho_R_X12.2.1 ho_R_X12.2.2 yy_X12_expression mw_methodLink_TinyCModel_357_TinyCModel_expression_II (d := 10) (zR_ok (by omega) (by decide)) hl.1 rfl (Nat.le_of_ble_eq_true rfl) (tX12_expression  hc) dX12_tellLocal_82 (fun H locs J => ?_)
        obtain ⟨hin, hf⟩ := itx hf
        refine as_X12_X12f40 X J hin dX12_tellLocal_85 (fun σ26 H locs eq J => ?_)
        have hf := bnd_eq eq hf
        clear eq
        exact bX12_tellLocal_86 X   J (lv_sub hl [3, 2, 1] rfl) hf
    · have hf := itn h hf
      refine lv_aload_n hx hb dX12_tellLocal_46 rfl (lv_at hl 3 rfl) ?_
      refine lv_iconst (v := (4 : Int32)) hx hb dX12_tellLocal_47 (by decide) ?_
      refine lv_aload_n hx hb dX12_tellLocal_48 rfl (lv_at hl 3 rfl) ?_
      refine gf_X12_199 X J dX12_tellLocal_49 ?_
      obtain ⟨r27, σ28, hc, hf⟩ := obd_some hf
      refine zr_callv (As := [.int (4 : Int32), .int (zI σ7 0 18)]) (rest := []) X J 0 ho_R_X12.1 ho_R_X12.2.1 ho_R_X12.2.2 yy_X12_fails mw_methodLink_TinyCModel_239_TinyCModel_fails_IIV (d := 0) (zR_ok (by omega) (by decide)) hl.1 rfl (Nat.le_of_ble_eq_true rfl) (tX12_fails  hc) dX12_tellLocal_52 (fun H locs J => ?_)
      refine lv_iload_n hx hb dX12_tellLocal_55 rfl (lv_at hl 2 rfl) ?_
      exact zr_iret X J hf dX12_tellLocal_56
  · have hf := itn h hf
    refine lv_aload_n hx hb dX12_tellLocal_19 rfl (lv_at hl 1 rfl) ?_
    obtain ⟨r29, σ30, hc, hf⟩ := obd_some hf
    refine zr_callv (As := []) (rest := []) X J 0 ho_R_X12.1 ho_R_X12.2.1 ho_R_X12.2.2 yy_X12_stray mw_methodLink_TinyCModel_253_TinyCModel_stray_V (d := 1) (zR_ok (by omega) (by decide)) hl.1 rfl (Nat.le_of_ble_eq_true rfl) (tX12_stray  hc) dX12_tellLocal_20 (fun H locs J => ?_)
    refine lv_iload_n hx hb dX12_tellLocal_23 rfl (lv_at hl 0 rfl) ?_
    exact zr_iret X J hf dX12_tellLocal_24
set_option maxHeartbeats 4000000 in
theorem bX12_branch_81 {o : Int32 × zSt} (X : zX p s m args meth c D cy shR ad ts cX12_branch 4 (some .int) RX12)  {x3_ : Int32} {s0_ : Int32}  {σ : zSt} {H : Heap} {locs : List Loc} {ls : Array Slot} (J : zJ D cy shR ad lnR s σ H locs) (hl : lv_has ls 4 [(3, .int x3_)]) (hf : fX12_branch_b81 N  x3_ s0_ σ = some o) : W p l e (zRm (11)) s m args below meth c H locs 0 0 (zQi D cy shR ad ts lnR below args s o) (F0 m 81 ls [.int s0_, .ref (ad 0)]) := by
  have hx := X.1
  have hb := X.2.1
  unfold fX12_branch_b81 at hf
  refine lv_iload_n hx hb dX12_branch_81 rfl (lv_at hl 0 rfl) ?_
  obtain ⟨r21, σ22, hc, hf⟩ := obd_some hf
  refine zr_callv (As := [.int s0_, .int x3_]) (rest := []) X J 0 ho_R_X12.1 ho_R_X12.2.1 ho_R_X12.2.2 yy_X12_enter mw_methodLink_TinyCModel_336_TinyCModel_enter_IIV (d := 0) (zR_ok (by omega) (by decide)) hl.1 rfl (Nat.le_of_ble_eq_true rfl) (tX12_enter  hc) dX12_branch_82 (fun H locs J => ?_)
  refine lv_iconst (v := (-1 : Int32)) hx hb dX12_branch_85 (by decide) ?_
  exact zr_iret X J hf dX12_branch_86
set_option maxHeartbeats 4000000 in
theorem bX12_branch_32 {o : Int32 × zSt} (X : zX p s m args meth c D cy shR ad ts cX12_branch 4 (some .int) RX12)  {x1_ : Int32} {s0_ : Int32}  {σ : zSt} {H : Heap} {locs : List Loc} {ls : Array Slot} (J : zJ D cy shR ad lnR s σ H locs) (hl : lv_has ls 4 [(0, .ref (ad 0)), (1, .int x1_)]) (hf : fX12_branch_b32 N  x1_ s0_ σ = some o) : W p l e (zRm (11)) s m args below meth c H locs 0 0 (zQi D cy shR ad ts lnR below args s o) (F0 m 32 ls [.int s0_, .ref (ad 0)]) := by
  have hx := X.1
  have hb := X.2.1
  unfold fX12_branch_b32 at hf
  obtain ⟨r8, σ9, hc, hf⟩ := obd_some hf
  refine zr_calli (As := [.int s0_]) (rest := []) X J 0 ho_R_X12.1 ho_R_X12.2.1 ho_R_X12.2.2 yy_X12_node mw_methodLink_TinyCModel_330_TinyCModel_node_II (d := 0) (zR_ok (by omega) (by decide)) hl.1 rfl (Nat.le_of_ble_eq_true rfl) (tX12_node  hc) dX12_branch_32 (fun H locs J => ?_)
  refine lv_istore_n hx hb dX12_branch_35 rfl hl (by decide) rfl (fun ls hl => ?_)
  have hl : lv_has ls 4 [(3, .int r8), (0, .ref (ad 0)), (1, .int x1_)] := hl
  refine lv_aload_n hx hb dX12_branch_36 rfl (lv_at hl 1 rfl) ?_
  obtain ⟨r10, σ11, hc, hf⟩ := obd_some hf
  refine zr_callv (As := []) (rest := []) X J 0 ho_R_X12.1 ho_R_X12.2.1 ho_R_X12.2.2 yy_X12_next mw_methodLink_TinyCModel_250_TinyCModel_next_V (d := 2) (zR_ok (by omega) (by decide)) hl.1 rfl (Nat.le_of_ble_eq_true rfl) (tX12_next  hc) dX12_branch_37 (fun H locs J => ?_)
  refine lv_aload_n hx hb dX12_branch_40 rfl (lv_at hl 1 rfl) ?_
  refine lv_bipush (v := (40 : Int32)) hx hb dX12_branch_41 (by decide) ?_
  obtain ⟨r12, σ13, hc, hf⟩ := obd_some hf
  refine zr_callv (As := [.int (40 : Int32)]) (rest := []) X J 0 ho_R_X12.1 ho_R_X12.2.1 ho_R_X12.2.2 yy_X12_opens mw_methodLink_TinyCModel_300_TinyCModel_opens_IV (d := 3) (zR_ok (by omega) (by decide)) hl.1 rfl (Nat.le_of_ble_eq_true rfl) (tX12_opens  hc) dX12_branch_43 (fun H locs J => ?_)
  refine lv_aload_n hx hb dX12_branch_46 rfl (lv_at hl 1 rfl) ?_
  refine gf_X12_56 X J dX12_branch_47 ?_
  refine lv_iload_n hx hb dX12_branch_50 rfl (lv_at hl 0 rfl) ?_
  refine lv_aload_n hx hb dX12_branch_51 rfl (lv_at hl 1 rfl) ?_
  refine lv_bipush (v := (41 : Int32)) hx hb dX12_branch_52 (by decide) ?_
  obtain ⟨r14, σ15, hc, hf⟩ := obd_some hf
  refine zr_calli (As := [.int (41 : Int32)]) (rest := [.int r8, .ref (ad 16)]) X J 0 ho_R_X12.1 ho_R_X12.2.1 ho_R_X12.2.2 yy_X12_expression mw_methodLink_TinyCModel_357_TinyCModel_expression_II (d := 10) (zR_ok (by omega) (by decide)) hl.1 rfl (Nat.le_of_ble_eq_true rfl) (tX12_expression  hc) dX12_branch_54 (fun H locs J => ?_)
  obtain ⟨hin, hf⟩ := itx hf
  refine as_X12_X12f40 X J hin dX12_branch_57 (fun σ16 H locs eq J => ?_)
  have hf := bnd_eq eq hf
  clear eq
  refine lv_aload_n hx hb dX12_branch_58 rfl (lv_at hl 1 rfl) ?_
  refine lv_bipush (v := (41 : Int32)) hx hb dX12_branch_59 (by decide) ?_
  obtain ⟨r17, σ18, hc, hf⟩ := obd_some hf
  refine zr_callv (As := [.int (41 : Int32)]) (rest := []) X J 0 ho_R_X12.1 ho_R_X12.2.1 ho_R_X12.2.2 yy_X12_closes mw_methodLink_TinyCModel_307_TinyCModel_closes_IV (d := 4) (zR_ok (by omega) (by decide)) hl.1 rfl (Nat.le_of_ble_eq_true rfl) (tX12_closes  hc) dX12_branch_61 (fun H locs J => ?_)
  refine lv_aload_n hx hb dX12_branch_64 rfl (lv_at hl 1 rfl) ?_
  obtain ⟨r19, σ20, hc, hf⟩ := obd_some hf
  refine zr_calli (As := []) (rest := []) X J 0 ho_R_X12.1 ho_R_X12.2.1 ho_R_X12.2.2 yy_X12_isWell mw_methodLink_TinyCModel_243_TinyCModel_isWell_Z (d := 0) (zR_ok (by omega) (by decide)) hl.1 rfl (Nat.le_of_ble_eq_true rfl) (tX12_isWell  hc) dX12_branch_65 (fun H locs J => ?_)
  refine lv_if_eq hx hb dX12_branch_68 rfl (fun h => ?_) (fun h => ?_)
  · have hf := itp h hf
    refine lv_iconst (v := (-1 : Int32)) hx hb dX12_branch_85 (by decide) ?_
    exact zr_iret X J hf dX12_branch_86
  · have hf := itn h hf
    refine lv_aload_n hx hb dX12_branch_71 rfl (lv_at hl 1 rfl) ?_
    refine lv_iload_n hx hb dX12_branch_72 rfl (lv_at hl 2 rfl) ?_
    refine lv_if_eq hx hb dX12_branch_73 rfl (fun h => ?_) (fun h => ?_)
    · have hf := itp h hf
      refine lv_iconst (v := (1 : Int32)) hx hb dX12_branch_80 (by decide) ?_
      exact bX12_branch_81 X   J (lv_sub hl [0] rfl) hf
    · have hf := itn h hf
      refine lv_iconst (v := (3 : Int32)) hx hb dX12_branch_76 (by decide) ?_
      refine lv_goto hx hb dX12_branch_77 rfl ?_
      exact bX12_branch_81 X   J (lv_sub hl [0] rfl) hf
set_option maxHeartbeats 4000000 in
theorem tX12_branch   {σ u : zSt} {r : Int32} (hf : fX12_branch N  σ = some (r, u)) : zMi l yX12_branch cX12_branch 4 (some .int) (11) D cy shR ad ts lnR [.ref (ad 0)] σ r u := by
  refine zM_of (by decide) (Nat.le_of_ble_eq_true rfl) (fun p e s m args below meth c ls ha X J hl => ?_)
  have hx := X.1
  have hb := X.2.1
  have hl : lv_has ls 4 [(0, .ref (ad 0))] := hl
  generalize s.heap = H at J ⊢
  generalize ([] : List Loc) = locs at J ⊢
  show W p l e (zRm (11)) s m args below meth c H locs 0 0 (zQi D cy shR ad ts lnR below args s (r, u)) (F0 m 0 ls [])
  unfold fX12_branch at hf
  refine lv_aload_n hx hb dX12_branch_0 rfl (lv_at hl 0 rfl) ?_
  refine lv_iconst (v := (3 : Int32)) hx hb dX12_branch_1 (by decide) ?_
  obtain ⟨r1, σ2, hc, hf⟩ := obd_some hf
  refine zr_calli (As := [.int (3 : Int32)]) (rest := []) X J 0 ho_R_X12.1 ho_R_X12.2.1 ho_R_X12.2.2 yy_X12_isWord mw_methodLink_TinyCModel_290_TinyCModel_isWord_IZ (d := 1) (zR_ok (by omega) (by decide)) hl.1 rfl (Nat.le_of_ble_eq_true rfl) (tX12_isWord  hc) dX12_branch_2 (fun H locs J => ?_)
  refine lv_istore_n hx hb dX12_branch_5 rfl hl (by decide) rfl (fun ls hl => ?_)
  have hl : lv_has ls 4 [(1, .int r1), (0, .ref (ad 0))] := hl
  refine lv_aload_n hx hb dX12_branch_6 rfl (lv_at hl 1 rfl) ?_
  refine gf_X12_199 X J dX12_branch_7 ?_
  refine lv_topi (fun x3 eq => ?_)
  have hf := bnd_eq eq hf
  clear eq
  refine lv_istore_n hx hb dX12_branch_10 rfl hl (by decide) rfl (fun ls hl => ?_)
  have hl : lv_has ls 4 [(2, .int x3), (1, .int r1), (0, .ref (ad 0))] := hl
  refine lv_aload_n hx hb dX12_branch_11 rfl (lv_at hl 2 rfl) ?_
  obtain ⟨r4, σ5, hc, hf⟩ := obd_some hf
  refine zr_callv (As := []) (rest := []) X J 0 ho_R_X12.1 ho_R_X12.2.1 ho_R_X12.2.2 yy_X12_nests mw_methodLink_TinyCModel_271_TinyCModel_nests_V (d := 1) (zR_ok (by omega) (by decide)) hl.1 rfl (Nat.le_of_ble_eq_true rfl) (tX12_nests  hc) dX12_branch_12 (fun H locs J => ?_)
  refine lv_aload_n hx hb dX12_branch_15 rfl (lv_at hl 2 rfl) ?_
  refine lv_iload_n hx hb dX12_branch_16 rfl (lv_at hl 0 rfl) ?_
  obtain ⟨r6, σ7, hc, hf⟩ := obd_some hf
  refine zr_callv (As := [.int x3]) (rest := []) X J 0 ho_R_X12.1 ho_R_X12.2.1 ho_R_X12.2.2 yy_X12_four mw_methodLink_TinyCModel_293_TinyCModel_four_IV (d := 1) (zR_ok (by omega) (by decide)) hl.1 rfl (Nat.le_of_ble_eq_true rfl) (tX12_four  hc) dX12_branch_17 (fun H locs J => ?_)
  refine lv_aload_n hx hb dX12_branch_20 rfl (lv_at hl 2 rfl) ?_
  refine lv_iload_n hx hb dX12_branch_21 rfl (lv_at hl 1 rfl) ?_
  refine lv_if_eq hx hb dX12_branch_22 rfl (fun h => ?_) (fun h => ?_)
  · have hf := itp h hf
    refine lv_bipush (v := (22 : Int32)) hx hb dX12_branch_30 (by decide) ?_
    exact bX12_branch_32 X   J (lv_sub hl [2, 1] rfl) hf
  · have hf := itn h hf
    refine lv_bipush (v := (23 : Int32)) hx hb dX12_branch_25 (by decide) ?_
    refine lv_goto hx hb dX12_branch_27 rfl ?_
    exact bX12_branch_32 X   J (lv_sub hl [2, 1] rfl) hf
set_option maxHeartbeats 4000000 in
theorem tX12_callAlone {a1_ : Int32} {a2_ : Int32}  {σ u : zSt} {r : Int32} (hf : fX12_callAlone N a1_ a2_ σ = some (r, u)) : zMi l yX12_callAlone cX12_callAlone 4 (some .int) (10) D cy shR ad ts lnR [.ref (ad 0), .int a1_, .int a2_] σ r u := by
  refine zM_of (by decide) (Nat.le_of_ble_eq_true rfl) (fun p e s m args below meth c ls ha X J hl => ?_)
  have hx := X.1
  have hb := X.2.1
  have hl : lv_has ls 4 [(0, .ref (ad 0)), (1, .int a1_), (2, .int a2_)] := hl
  generalize s.heap = H at J ⊢
  generalize ([] : List Loc) = locs at J ⊢
  show W p l e (zRm (10)) s m args below meth c H locs 0 0 (zQi D cy shR ad ts lnR below args s (r, u)) (F0 m 0 ls [])
  unfold fX12_callAlone at hf
  refine lv_aload_n hx hb dX12_callAlone_0 rfl (lv_at hl 0 rfl) ?_
  refine lv_iconst (v := (0 : Int32)) hx hb dX12_callAlone_1 (by decide) ?_
  refine pf_X12_370 X J dX12_callAlone_2 (fun σ1 H locs eq J => ?_)
  have hf := bnd_eq eq hf
  clear eq
  refine lv_aload_n hx hb dX12_callAlone_5 rfl (lv_at hl 0 rfl) ?_
  refine lv_iload_n hx hb dX12_callAlone_6 rfl (lv_at hl 1 rfl) ?_
  refine lv_iload_n hx hb dX12_callAlone_7 rfl (lv_at hl 2 rfl) ?_
  obtain ⟨r2, σ3, hc, hf⟩ := obd_some hf
  refine zr_calli (As := [.int a1_, .int a2_]) (rest := []) X J 0 ho_R_X12.1 ho_R_X12.2.1 ho_R_X12.2.2 yy_X12_call mw_methodLink_TinyCModel_380_TinyCModel_call_III (d := 6) (zR_ok (by omega) (by decide)) hl.1 rfl (Nat.le_of_ble_eq_true rfl) (tX12_call  hc) dX12_callAlone_8 (fun H locs J => ?_)
  refine lv_istore_n hx hb dX12_callAlone_11 rfl hl (by decide) rfl (fun ls hl => ?_)
  have hl : lv_has ls 4 [(3, .int r2), (0, .ref (ad 0)), (1, .int a1_), (2, .int a2_)] := hl
  refine lv_iload_n hx hb dX12_callAlone_12 rfl (lv_at hl 0 rfl) ?_
  refine lv_if_lt hx hb dX12_callAlone_13 rfl (fun h => ?_) (fun h => ?_)
  · have hf := itp h hf
    refine lv_aload_n hx hb dX12_callAlone_20 rfl (lv_at hl 1 rfl) ?_
    obtain ⟨r4, σ5, hc, hf⟩ := obd_some hf
    refine zr_calli (As := []) (rest := []) X J 0 ho_R_X12.1 ho_R_X12.2.1 ho_R_X12.2.2 yy_X12_works mw_methodLink_TinyCModel_377_TinyCModel_works_I (d := 9) (zR_ok (by omega) (by decide)) hl.1 rfl (Nat.le_of_ble_eq_true rfl) (tX12_works  hc) dX12_callAlone_21 (fun H locs J => ?_)
    exact zr_iret X J hf dX12_callAlone_24
  · have hf := itn h hf
    refine lv_iload_n hx hb dX12_callAlone_16 rfl (lv_at hl 0 rfl) ?_
    refine lv_goto hx hb dX12_callAlone_17 rfl ?_
    exact zr_iret X J hf dX12_callAlone_24
set_option maxHeartbeats 4000000 in
theorem bX12_assignment_147 {o : Int32 × zSt} (X : zX p s m args meth c D cy shR ad ts cX12_assignment 8 (some .int) RX12)  {x7_ : Int32} {s0_ : Int32} {s1_ : Int32}  {σ : zSt} {H : Heap} {locs : List Loc} {ls : Array Slot} (J : zJ D cy shR ad lnR s σ H locs) (hl : lv_has ls 8 [(0, .ref (ad 0)), (7, .int x7_)]) (hf : fX12_assignment_b147 N  x7_ s0_ s1_ σ = some o) : W p l e (zRm (11)) s m args below meth c H locs 0 0 (zQi D cy shR ad ts lnR below args s o) (F0 m 147 ls [.int s0_, .int s1_, .ref (ad 19)]) := by
  have hx := X.1
  have hb := X.2.1
  unfold fX12_assignment_b147 at hf
  obtain ⟨hin, hf⟩ := itx hf
  refine as_X12_X12f43 X J hin dX12_assignment_147 (fun σ49 H locs eq J => ?_)
  have hf := bnd_eq eq hf
  clear eq
  refine lv_aload_n hx hb dX12_assignment_148 rfl (lv_at hl 0 rfl) ?_
  obtain ⟨r50, σ51, hc, hf⟩ := obd_some hf
  refine zr_callv (As := []) (rest := []) X J 0 ho_R_X12.1 ho_R_X12.2.1 ho_R_X12.2.2 yy_X12_next mw_methodLink_TinyCModel_250_TinyCModel_next_V (d := 2) (zR_ok (by omega) (by decide)) hl.1 rfl (Nat.le_of_ble_eq_true rfl) (tX12_next  hc) dX12_assignment_149 (fun H locs J => ?_)
  refine lv_aload_n hx hb dX12_assignment_152 rfl (lv_at hl 0 rfl) ?_
  refine gf_X12_56 X J dX12_assignment_153 ?_
  refine lv_iload hx hb dX12_assignment_156 (lv_at hl 1 rfl) ?_
  refine lv_aload_n hx hb dX12_assignment_158 rfl (lv_at hl 0 rfl) ?_
  refine lv_bipush (v := (59 : Int32)) hx hb dX12_assignment_159 (by decide) ?_
  obtain ⟨r52, σ53, hc, hf⟩ := obd_some hf
  refine zr_calli (As := [.int (59 : Int32)]) (rest := [.int x7_, .ref (ad 16)]) X J 0 ho_R_X12.1 ho_R_X12.2.1 ho_R_X12.2.2 yy_X12_expression mw_methodLink_TinyCModel_357_TinyCModel_expression_II (d := 10) (zR_ok (by omega) (by decide)) hl.1 rfl (Nat.le_of_ble_eq_true rfl) (tX12_expression  hc) dX12_assignment_161 (fun H locs J => ?_)
  obtain ⟨hin, hf⟩ := itx hf
  refine as_X12_X12f40 X J hin dX12_assignment_164 (fun σ54 H locs eq J => ?_)
  have hf := bnd_eq eq hf
  clear eq
  refine lv_aload_n hx hb dX12_assignment_165 rfl (lv_at hl 0 rfl) ?_
  refine lv_bipush (v := (59 : Int32)) hx hb dX12_assignment_166 (by decide) ?_
  obtain ⟨r55, σ56, hc, hf⟩ := obd_some hf
  refine zr_callv (As := [.int (59 : Int32)]) (rest := []) X J 0 ho_R_X12.1 ho_R_X12.2.1 ho_R_X12.2.2 yy_X12_takes mw_methodLink_TinyCModel_274_TinyCModel_takes_IV (d := 3) (zR_ok (by omega) (by decide)) hl.1 rfl (Nat.le_of_ble_eq_true rfl) (tX12_takes  hc) dX12_assignment_168 (fun H locs J => ?_)
  refine lv_goto hx hb dX12_assignment_171 rfl ?_
  refine lv_iload hx hb dX12_assignment_348 (lv_at hl 1 rfl) ?_
  exact zr_iret X J hf dX12_assignment_350
set_option maxHeartbeats 4000000 in
theorem bX12_assignment_118 {o : Int32 × zSt} (X : zX p s m args meth c D cy shR ad ts cX12_assignment 8 (some .int) RX12)  {x4_ : Int32} {x5_ : Int32} {x7_ : Int32} {s0_ : Int32} {s1_ : Int32}  {σ : zSt} {H : Heap} {locs : List Loc} {ls : Array Slot} (J : zJ D cy shR ad lnR s σ H locs) (hl : lv_has ls 8 [(0, .ref (ad 0)), (4, .int x4_), (5, .int x5_), (7, .int x7_)]) (hf : fX12_assignment_b118 N  x4_ x5_ x7_ s0_ s1_ σ = some o) : W p l e (zRm (11)) s m args below meth c H locs 0 0 (zQi D cy shR ad ts lnR below args s o) (F0 m 118 ls [.int s0_, .int s1_, .ref (ad 15)]) := by
  have hx := X.1
  have hb := X.2.1
  unfold fX12_assignment_b118 at hf
  obtain ⟨hin, hf⟩ := itx hf
  refine as_X12_X12f39 X J hin dX12_assignment_118 (fun σ48 H locs eq J => ?_)
  have hf := bnd_eq eq hf
  clear eq
  refine lv_aload_n hx hb dX12_assignment_119 rfl (lv_at hl 0 rfl) ?_
  refine gf_X12_65 X J dX12_assignment_120 ?_
  refine lv_iload hx hb dX12_assignment_123 (lv_at hl 3 rfl) ?_
  refine lv_iload hx hb dX12_assignment_125 (lv_at hl 1 rfl) ?_
  refine lv_if_lt hx hb dX12_assignment_127 rfl (fun h => ?_) (fun h => ?_)
  · have hf := itp h hf
    refine lv_aload_n hx hb dX12_assignment_140 rfl (lv_at hl 0 rfl) ?_
    refine gf_X12_35 X J dX12_assignment_141 ?_
    refine lv_iload hx hb dX12_assignment_144 (lv_at hl 2 rfl) ?_
    obtain ⟨hin, hf⟩ := itx hf
    refine al_X12_X12f25 X J hin dX12_assignment_146 ?_
    exact bX12_assignment_147 X   J (lv_sub hl [0, 3] rfl) hf
  · have hf := itn h hf
    refine lv_aload_n hx hb dX12_assignment_130 rfl (lv_at hl 0 rfl) ?_
    refine gf_X12_50 X J dX12_assignment_131 ?_
    refine lv_iload hx hb dX12_assignment_134 (lv_at hl 1 rfl) ?_
    obtain ⟨hin, hf⟩ := itx hf
    refine al_X12_X12f32 X J hin dX12_assignment_136 ?_
    refine lv_goto hx hb dX12_assignment_137 rfl ?_
    exact bX12_assignment_147 X   J (lv_sub hl [0, 3] rfl) hf
set_option maxHeartbeats 4000000 in
theorem bX12_assignment_67 {o : Int32 × zSt} (X : zX p s m args meth c D cy shR ad ts cX12_assignment 8 (some .int) RX12)  {x1_ : Int32} {x4_ : Int32} {x5_ : Int32} {s0_ : Int32}  {σ : zSt} {H : Heap} {locs : List Loc} {ls : Array Slot} (J : zJ D cy shR ad lnR s σ H locs) (hl : lv_has ls 8 [(0, .ref (ad 0)), (1, .int x1_), (4, .int x4_), (5, .int x5_)]) (hf : fX12_assignment_b67 N  x1_ x4_ x5_ s0_ σ = some o) : W p l e (zRm (11)) s m args below meth c H locs 0 0 (zQi D cy shR ad ts lnR below args s o) (F0 m 67 ls [.int s0_]) := by
  have hx := X.1
  have hb := X.2.1
  unfold fX12_assignment_b67 at hf
  refine lv_istore hx hb dX12_assignment_67 hl (by decide) rfl (fun ls hl => ?_)
  have hl : lv_has ls 8 [(6, .int s0_), (0, .ref (ad 0)), (1, .int x1_), (4, .int x4_), (5, .int x5_)] := hl
  refine lv_aload_n hx hb dX12_assignment_69 rfl (lv_at hl 1 rfl) ?_
  refine lv_bipush (v := (30 : Int32)) hx hb dX12_assignment_70 (by decide) ?_
  obtain ⟨r11, σ12, hc, hf⟩ := obd_some hf
  refine zr_calli (As := [.int (30 : Int32)]) (rest := []) X J 0 ho_R_X12.1 ho_R_X12.2.1 ho_R_X12.2.2 yy_X12_node mw_methodLink_TinyCModel_330_TinyCModel_node_II (d := 0) (zR_ok (by omega) (by decide)) hl.1 rfl (Nat.le_of_ble_eq_true rfl) (tX12_node  hc) dX12_assignment_72 (fun H locs J => ?_)
  refine lv_istore hx hb dX12_assignment_75 hl (by decide) rfl (fun ls hl => ?_)
  have hl : lv_has ls 8 [(7, .int r11), (6, .int s0_), (0, .ref (ad 0)), (1, .int x1_), (4, .int x4_), (5, .int x5_)] := hl
  refine lv_aload_n hx hb dX12_assignment_77 rfl (lv_at hl 2 rfl) ?_
  refine lv_bipush (v := (61 : Int32)) hx hb dX12_assignment_78 (by decide) ?_
  obtain ⟨r13, σ14, hc, hf⟩ := obd_some hf
  refine zr_calli (As := [.int (61 : Int32)]) (rest := []) X J 0 ho_R_X12.1 ho_R_X12.2.1 ho_R_X12.2.2 yy_X12_isSign mw_methodLink_TinyCModel_247_TinyCModel_isSign_IZ (d := 1) (zR_ok (by omega) (by decide)) hl.1 rfl (Nat.le_of_ble_eq_true rfl) (tX12_isSign  hc) dX12_assignment_80 (fun H locs J => ?_)
  refine lv_if_eq hx hb dX12_assignment_83 rfl (fun h => ?_) (fun h => ?_)
  · have hf := itp h hf
    refine lv_aload_n hx hb dX12_assignment_174 rfl (lv_at hl 2 rfl) ?_
    refine lv_bipush (v := (91 : Int32)) hx hb dX12_assignment_175 (by decide) ?_
    obtain ⟨r15, σ16, hc, hf⟩ := obd_some hf
    refine zr_calli (As := [.int (91 : Int32)]) (rest := []) X J 0 ho_R_X12.1 ho_R_X12.2.1 ho_R_X12.2.2 yy_X12_isSign mw_methodLink_TinyCModel_247_TinyCModel_isSign_IZ (d := 1) (zR_ok (by omega) (by decide)) hl.1 rfl (Nat.le_of_ble_eq_true rfl) (tX12_isSign  hc) dX12_assignment_177 (fun H locs J => ?_)
    refine lv_if_eq hx hb dX12_assignment_180 rfl (fun h => ?_) (fun h => ?_)
    · have hf := itp h hf
      refine lv_aload_n hx hb dX12_assignment_288 rfl (lv_at hl 2 rfl) ?_
      refine lv_bipush (v := (40 : Int32)) hx hb dX12_assignment_289 (by decide) ?_
      obtain ⟨r17, σ18, hc, hf⟩ := obd_some hf
      refine zr_calli (As := [.int (40 : Int32)]) (rest := []) X J 0 ho_R_X12.1 ho_R_X12.2.1 ho_R_X12.2.2 yy_X12_isSign mw_methodLink_TinyCModel_247_TinyCModel_isSign_IZ (d := 1) (zR_ok (by omega) (by decide)) hl.1 rfl (Nat.le_of_ble_eq_true rfl) (tX12_isSign  hc) dX12_assignment_291 (fun H locs J => ?_)
      refine lv_if_eq hx hb dX12_assignment_294 rfl (fun h => ?_) (fun h => ?_)
      · have hf := itp h hf
        refine lv_aload_n hx hb dX12_assignment_344 rfl (lv_at hl 2 rfl) ?_
        obtain ⟨r19, σ20, hc, hf⟩ := obd_some hf
        refine zr_callv (As := []) (rest := []) X J 0 ho_R_X12.1 ho_R_X12.2.1 ho_R_X12.2.2 yy_X12_stray mw_methodLink_TinyCModel_253_TinyCModel_stray_V (d := 1) (zR_ok (by omega) (by decide)) hl.1 rfl (Nat.le_of_ble_eq_true rfl) (tX12_stray  hc) dX12_assignment_345 (fun H locs J => ?_)
        refine lv_iload hx hb dX12_assignment_348 (lv_at hl 0 rfl) ?_
        exact zr_iret X J hf dX12_assignment_350
      · have hf := itn h hf
        refine lv_iload hx hb dX12_assignment_297 (lv_at hl 1 rfl) ?_
        refine lv_iconst (v := (2 : Int32)) hx hb dX12_assignment_299 (by decide) ?_
        refine lv_icmp_eq hx hb dX12_assignment_300 rfl (fun h => ?_) (fun h => ?_)
        · have hf := itp h hf
          refine lv_aload_n hx hb dX12_assignment_312 rfl (lv_at hl 2 rfl) ?_
          refine gf_X12_53 X J dX12_assignment_313 ?_
          refine lv_iload hx hb dX12_assignment_316 (lv_at hl 0 rfl) ?_
          refine lv_bipush (v := (29 : Int32)) hx hb dX12_assignment_318 (by decide) ?_
          obtain ⟨hin, hf⟩ := itx hf
          refine as_X12_X12f39 X J hin dX12_assignment_320 (fun σ21 H locs eq J => ?_)
          have hf := bnd_eq eq hf
          clear eq
          refine lv_aload_n hx hb dX12_assignment_321 rfl (lv_at hl 2 rfl) ?_
          refine gf_X12_56 X J dX12_assignment_322 ?_
          refine lv_iload hx hb dX12_assignment_325 (lv_at hl 0 rfl) ?_
          refine lv_aload_n hx hb dX12_assignment_327 rfl (lv_at hl 2 rfl) ?_
          refine lv_iload_n hx hb dX12_assignment_328 rfl (lv_at hl 3 rfl) ?_
          refine lv_iload hx hb dX12_assignment_329 (lv_at hl 5 rfl) ?_
          obtain ⟨r22, σ23, hc, hf⟩ := obd_some hf
          refine zr_calli (As := [.int x1_, .int x5_]) (rest := [.int r11, .ref (ad 16)]) X J 0 ho_R_X12.1 ho_R_X12.2.1 ho_R_X12.2.2 yy_X12_callAlone mw_methodLink_TinyCModel_366_TinyCModel_callAlone_III (d := 10) (zR_ok (by omega) (by decide)) hl.1 rfl (Nat.le_of_ble_eq_true rfl) (tX12_callAlone  hc) dX12_assignment_331 (fun H locs J => ?_)
          obtain ⟨hin, hf⟩ := itx hf
          refine as_X12_X12f40 X J hin dX12_assignment_334 (fun σ24 H locs eq J => ?_)
          have hf := bnd_eq eq hf
          clear eq
          refine lv_aload_n hx hb dX12_assignment_335 rfl (lv_at hl 2 rfl) ?_
          refine lv_bipush (v := (59 : Int32)) hx hb dX12_assignment_336 (by decide) ?_
          obtain ⟨r25, σ26, hc, hf⟩ := obd_some hf
          refine zr_callv (As := [.int (59 : Int32)]) (rest := []) X J 0 ho_R_X12.1 ho_R_X12.2.1 ho_R_X12.2.2 yy_X12_takes mw_methodLink_TinyCModel_274_TinyCModel_takes_IV (d := 3) (zR_ok (by omega) (by decide)) hl.1 rfl (Nat.le_of_ble_eq_true rfl) (tX12_takes  hc) dX12_assignment_338 (fun H locs J => ?_)
          refine lv_goto hx hb dX12_assignment_341 rfl ?_
          refine lv_iload hx hb dX12_assignment_348 (lv_at hl 0 rfl) ?_
          exact zr_iret X J hf dX12_assignment_350
        · have hf := itn h hf
          refine lv_aload_n hx hb dX12_assignment_303 rfl (lv_at hl 2 rfl) ?_
          refine lv_iconst (v := (5 : Int32)) hx hb dX12_assignment_304 (by decide) ?_
          refine lv_iload_n hx hb dX12_assignment_305 rfl (lv_at hl 3 rfl) ?_
          obtain ⟨r27, σ28, hc, hf⟩ := obd_some hf
          refine zr_callv (As := [.int (5 : Int32), .int x1_]) (rest := []) X J 0 ho_R_X12.1 ho_R_X12.2.1 ho_R_X12.2.2 yy_X12_fails mw_methodLink_TinyCModel_239_TinyCModel_fails_IIV (d := 0) (zR_ok (by omega) (by decide)) hl.1 rfl (Nat.le_of_ble_eq_true rfl) (tX12_fails  hc) dX12_assignment_306 (fun H locs J => ?_)
          refine lv_iload hx hb dX12_assignment_309 (lv_at hl 0 rfl) ?_
          exact zr_iret X J hf dX12_assignment_311
    · have hf := itn h hf
      refine lv_iload hx hb dX12_assignment_183 (lv_at hl 1 rfl) ?_
      refine lv_iconst (v := (1 : Int32)) hx hb dX12_assignment_185 (by decide) ?_
      refine lv_icmp_eq hx hb dX12_assignment_186 rfl (fun h => ?_) (fun h => ?_)
      · have hf := itp h hf
        refine lv_aload_n hx hb dX12_assignment_198 rfl (lv_at hl 2 rfl) ?_
        refine gf_X12_53 X J dX12_assignment_199 ?_
        refine lv_iload hx hb dX12_assignment_202 (lv_at hl 0 rfl) ?_
        refine lv_bipush (v := (28 : Int32)) hx hb dX12_assignment_204 (by decide) ?_
        obtain ⟨hin, hf⟩ := itx hf
        refine as_X12_X12f39 X J hin dX12_assignment_206 (fun σ29 H locs eq J => ?_)
        have hf := bnd_eq eq hf
        clear eq
        refine lv_aload_n hx hb dX12_assignment_207 rfl (lv_at hl 2 rfl) ?_
        refine gf_X12_65 X J dX12_assignment_208 ?_
        refine lv_iload hx hb dX12_assignment_211 (lv_at hl 0 rfl) ?_
        refine lv_aload_n hx hb dX12_assignment_213 rfl (lv_at hl 2 rfl) ?_
        refine gf_X12_35 X J dX12_assignment_214 ?_
        refine lv_iload hx hb dX12_assignment_217 (lv_at hl 5 rfl) ?_
        obtain ⟨hin, hf⟩ := itx hf
        refine al_X12_X12f25 X J hin dX12_assignment_219 ?_
        obtain ⟨hin, hf⟩ := itx hf
        refine as_X12_X12f43 X J hin dX12_assignment_220 (fun σ30 H locs eq J => ?_)
        have hf := bnd_eq eq hf
        clear eq
        refine lv_aload_n hx hb dX12_assignment_221 rfl (lv_at hl 2 rfl) ?_
        refine gf_X12_68 X J dX12_assignment_222 ?_
        refine lv_iload hx hb dX12_assignment_225 (lv_at hl 0 rfl) ?_
        refine lv_aload_n hx hb dX12_assignment_227 rfl (lv_at hl 2 rfl) ?_
        refine gf_X12_38 X J dX12_assignment_228 ?_
        refine lv_iload hx hb dX12_assignment_231 (lv_at hl 5 rfl) ?_
        obtain ⟨hin, hf⟩ := itx hf
        refine al_X12_X12f26 X J hin dX12_assignment_233 ?_
        obtain ⟨hin, hf⟩ := itx hf
        refine as_X12_X12f44 X J hin dX12_assignment_234 (fun σ31 H locs eq J => ?_)
        have hf := bnd_eq eq hf
        clear eq
        refine lv_aload_n hx hb dX12_assignment_235 rfl (lv_at hl 2 rfl) ?_
        refine lv_bipush (v := (91 : Int32)) hx hb dX12_assignment_236 (by decide) ?_
        obtain ⟨r32, σ33, hc, hf⟩ := obd_some hf
        refine zr_callv (As := [.int (91 : Int32)]) (rest := []) X J 0 ho_R_X12.1 ho_R_X12.2.1 ho_R_X12.2.2 yy_X12_opens mw_methodLink_TinyCModel_300_TinyCModel_opens_IV (d := 3) (zR_ok (by omega) (by decide)) hl.1 rfl (Nat.le_of_ble_eq_true rfl) (tX12_opens  hc) dX12_assignment_238 (fun H locs J => ?_)
        refine lv_aload_n hx hb dX12_assignment_241 rfl (lv_at hl 2 rfl) ?_
        refine gf_X12_56 X J dX12_assignment_242 ?_
        refine lv_iload hx hb dX12_assignment_245 (lv_at hl 0 rfl) ?_
        refine lv_aload_n hx hb dX12_assignment_247 rfl (lv_at hl 2 rfl) ?_
        refine lv_bipush (v := (93 : Int32)) hx hb dX12_assignment_248 (by decide) ?_
        obtain ⟨r34, σ35, hc, hf⟩ := obd_some hf
        refine zr_calli (As := [.int (93 : Int32)]) (rest := [.int r11, .ref (ad 16)]) X J 0 ho_R_X12.1 ho_R_X12.2.1 ho_R_X12.2.2 yy_X12_expression mw_methodLink_TinyCModel_357_TinyCModel_expression_II (d := 10) (zR_ok (by omega) (by decide)) hl.1 rfl (Nat.le_of_ble_eq_true rfl) (tX12_expression  hc) dX12_assignment_250 (fun H locs J => ?_)
        obtain ⟨hin, hf⟩ := itx hf
        refine as_X12_X12f40 X J hin dX12_assignment_253 (fun σ36 H locs eq J => ?_)
        have hf := bnd_eq eq hf
        clear eq
        refine lv_aload_n hx hb dX12_assignment_254 rfl (lv_at hl 2 rfl) ?_
        refine lv_bipush (v := (93 : Int32)) hx hb dX12_assignment_255 (by decide) ?_
        obtain ⟨r37, σ38, hc, hf⟩ := obd_some hf
        refine zr_callv (As := [.int (93 : Int32)]) (rest := []) X J 0 ho_R_X12.1 ho_R_X12.2.1 ho_R_X12.2.2 yy_X12_closes mw_methodLink_TinyCModel_307_TinyCModel_closes_IV (d := 4) (zR_ok (by omega) (by decide)) hl.1 rfl (Nat.le_of_ble_eq_true rfl) (tX12_closes  hc) dX12_assignment_257 (fun H locs J => ?_)
        refine lv_aload_n hx hb dX12_assignment_260 rfl (lv_at hl 2 rfl) ?_
        refine lv_bipush (v := (61 : Int32)) hx hb dX12_assignment_261 (by decide) ?_
        obtain ⟨r39, σ40, hc, hf⟩ := obd_some hf
        refine zr_callv (As := [.int (61 : Int32)]) (rest := []) X J 0 ho_R_X12.1 ho_R_X12.2.1 ho_R_X12.2.2 yy_X12_takes mw_methodLink_TinyCModel_274_TinyCModel_takes_IV (d := 3) (zR_ok (by omega) (by decide)) hl.1 rfl (Nat.le_of_ble_eq_true rfl) (tX12_takes  hc) dX12_assignment_263 (fun H locs J => ?_)
        refine lv_aload_n hx hb dX12_assignment_266 rfl (lv_at hl 2 rfl) ?_
        refine gf_X12_59 X J dX12_assignment_267 ?_
        refine lv_iload hx hb dX12_assignment_270 (lv_at hl 0 rfl) ?_
        refine lv_aload_n hx hb dX12_assignment_272 rfl (lv_at hl 2 rfl) ?_
        refine lv_bipush (v := (59 : Int32)) hx hb dX12_assignment_273 (by decide) ?_
        obtain ⟨r41, σ42, hc, hf⟩ := obd_some hf
        refine zr_calli (As := [.int (59 : Int32)]) (rest := [.int r11, .ref (ad 17)]) X J 0 ho_R_X12.1 ho_R_X12.2.1 ho_R_X12.2.2 yy_X12_expression mw_methodLink_TinyCModel_357_TinyCModel_expression_II (d := 10) (zR_ok (by omega) (by decide)) hl.1 rfl (Nat.le_of_ble_eq_true rfl) (tX12_expression  hc) dX12_assignment_275 (fun H locs J => ?_)
        obtain ⟨hin, hf⟩ := itx hf
        refine as_X12_X12f41 X J hin dX12_assignment_278 (fun σ43 H locs eq J => ?_)
        have hf := bnd_eq eq hf
        clear eq
        refine lv_aload_n hx hb dX12_assignment_279 rfl (lv_at hl 2 rfl) ?_
        refine lv_bipush (v := (59 : Int32)) hx hb dX12_assignment_280 (by decide) ?_
        obtain ⟨r44, σ45, hc, hf⟩ := obd_some hf
        refine zr_callv (As := [.int (59 : Int32)]) (rest := []) X J 0 ho_R_X12.1 ho_R_X12.2.1 ho_R_X12.2.2 yy_X12_takes mw_methodLink_TinyCModel_274_TinyCModel_takes_IV (d := 3) (zR_ok (by omega) (by decide)) hl.1 rfl (Nat.le_of_ble_eq_true rfl) (tX12_takes  hc) dX12_assignment_282 (fun H locs J => ?_)
        refine lv_goto hx hb dX12_assignment_285 rfl ?_
        refine lv_iload hx hb dX12_assignment_348 (lv_at hl 0 rfl) ?_
        exact zr_iret X J hf dX12_assignment_350
      · have hf := itn h hf
        refine lv_aload_n hx hb dX12_assignment_189 rfl (lv_at hl 2 rfl) ?_
        refine lv_iconst (v := (5 : Int32)) hx hb dX12_assignment_190 (by decide) ?_
        refine lv_iload_n hx hb dX12_assignment_191 rfl (lv_at hl 3 rfl) ?_
        obtain ⟨r46, σ47, hc, hf⟩ := obd_some hf
        refine zr_callv (As := [.int (5 : Int32), .int x1_]) (rest := []) X J 0 ho_R_X12.1 ho_R_X12.2.1 ho_R_X12.2.2 yy_X12_fails mw_methodLink_TinyCModel_239_TinyCModel_fails_IIV (d := 0) (zR_ok (by omega) (by decide)) hl.1 rfl (Nat.le_of_ble_eq_true rfl) (tX12_fails  hc) dX12_assignment_192 (fun H locs J => ?_)
        refine lv_iload hx hb dX12_assignment_195 (lv_at hl 0 rfl) ?_
        exact zr_iret X J hf dX12_assignment_197
  · have hf := itn h hf
    refine lv_iload hx hb dX12_assignment_86 (lv_at hl 1 rfl) ?_
    refine lv_if_eq hx hb dX12_assignment_88 rfl (fun h => ?_) (fun h => ?_)
    · have hf := itp h hf
      refine lv_aload_n hx hb dX12_assignment_100 rfl (lv_at hl 2 rfl) ?_
      refine gf_X12_53 X J dX12_assignment_101 ?_
      refine lv_iload hx hb dX12_assignment_104 (lv_at hl 0 rfl) ?_
      refine lv_iload hx hb dX12_assignment_106 (lv_at hl 4 rfl) ?_
      refine lv_if_lt hx hb dX12_assignment_108 rfl (fun h => ?_) (fun h => ?_)
      · have hf := itp h hf
        refine lv_bipush (v := (26 : Int32)) hx hb dX12_assignment_116 (by decide) ?_
        exact bX12_assignment_118 X   J (lv_sub hl [2, 4, 5, 0] rfl) hf
      · have hf := itn h hf
        refine lv_bipush (v := (27 : Int32)) hx hb dX12_assignment_111 (by decide) ?_
        refine lv_goto hx hb dX12_assignment_113 rfl ?_
        exact bX12_assignment_118 X   J (lv_sub hl [2, 4, 5, 0] rfl) hf
    · have hf := itn h hf
      refine lv_aload_n hx hb dX12_assignment_91 rfl (lv_at hl 2 rfl) ?_
      refine lv_iconst (v := (5 : Int32)) hx hb dX12_assignment_92 (by decide) ?_
      refine lv_iload_n hx hb dX12_assignment_93 rfl (lv_at hl 3 rfl) ?_
      obtain ⟨r57, σ58, hc, hf⟩ := obd_some hf
      refine zr_callv (As := [.int (5 : Int32), .int x1_]) (rest := []) X J 0 ho_R_X12.1 ho_R_X12.2.1 ho_R_X12.2.2 yy_X12_fails mw_methodLink_TinyCModel_239_TinyCModel_fails_IIV (d := 0) (zR_ok (by omega) (by decide)) hl.1 rfl (Nat.le_of_ble_eq_true rfl) (tX12_fails  hc) dX12_assignment_94 (fun H locs J => ?_)
      refine lv_iload hx hb dX12_assignment_97 (lv_at hl 0 rfl) ?_
      exact zr_iret X J hf dX12_assignment_99
set_option maxHeartbeats 4000000 in
theorem bX12_assignment_42 {o : Int32 × zSt} (X : zX p s m args meth c D cy shR ad ts cX12_assignment 8 (some .int) RX12)  {x1_ : Int32} {x4_ : Int32} {x5_ : Int32}  {σ : zSt} {H : Heap} {locs : List Loc} {ls : Array Slot} (J : zJ D cy shR ad lnR s σ H locs) (hl : lv_has ls 8 [(0, .ref (ad 0)), (1, .int x1_), (4, .int x4_), (5, .int x5_)]) (hf : fX12_assignment_b42 N  x1_ x4_ x5_ σ = some o) : W p l e (zRm (11)) s m args below meth c H locs 0 0 (zQi D cy shR ad ts lnR below args s o) (F0 m 42 ls []) := by
  have hx := X.1
  have hb := X.2.1
  unfold fX12_assignment_b42 at hf
  refine lv_aload_n hx hb dX12_assignment_42 rfl (lv_at hl 0 rfl) ?_
  refine lv_iload_n hx hb dX12_assignment_43 rfl (lv_at hl 1 rfl) ?_
  obtain ⟨r7, σ8, hc, hf⟩ := obd_some hf
  refine zr_callv (As := [.int x1_]) (rest := []) X J 0 ho_R_X12.1 ho_R_X12.2.1 ho_R_X12.2.2 yy_X12_four mw_methodLink_TinyCModel_293_TinyCModel_four_IV (d := 1) (zR_ok (by omega) (by decide)) hl.1 rfl (Nat.le_of_ble_eq_true rfl) (tX12_four  hc) dX12_assignment_44 (fun H locs J => ?_)
  refine lv_aload_n hx hb dX12_assignment_47 rfl (lv_at hl 0 rfl) ?_
  obtain ⟨r9, σ10, hc, hf⟩ := obd_some hf
  refine zr_callv (As := []) (rest := []) X J 0 ho_R_X12.1 ho_R_X12.2.1 ho_R_X12.2.2 yy_X12_next mw_methodLink_TinyCModel_250_TinyCModel_next_V (d := 2) (zR_ok (by omega) (by decide)) hl.1 rfl (Nat.le_of_ble_eq_true rfl) (tX12_next  hc) dX12_assignment_48 (fun H locs J => ?_)
  refine lv_iload hx hb dX12_assignment_51 (lv_at hl 2 rfl) ?_
  refine lv_if_lt hx hb dX12_assignment_53 rfl (fun h => ?_) (fun h => ?_)
  · have hf := itp h hf
    refine lv_aload_n hx hb dX12_assignment_60 rfl (lv_at hl 0 rfl) ?_
    refine gf_X12_32 X J dX12_assignment_61 ?_
    refine lv_iload hx hb dX12_assignment_64 (lv_at hl 3 rfl) ?_
    obtain ⟨hin, hf⟩ := itx hf
    refine al_X12_X12f24 X J hin dX12_assignment_66 ?_
    exact bX12_assignment_67 X   J (lv_sub hl [0, 1, 2, 3] rfl) hf
  · have hf := itn h hf
    refine lv_iconst (v := (0 : Int32)) hx hb dX12_assignment_56 (by decide) ?_
    refine lv_goto hx hb dX12_assignment_57 rfl ?_
    exact bX12_assignment_67 X   J (lv_sub hl [0, 1, 2, 3] rfl) hf
set_option maxHeartbeats 4000000 in
theorem tX12_assignment   {σ u : zSt} {r : Int32} (hf : fX12_assignment N  σ = some (r, u)) : zMi l yX12_assignment cX12_assignment 8 (some .int) (11) D cy shR ad ts lnR [.ref (ad 0)] σ r u := by
  refine zM_of (by decide) (Nat.le_of_ble_eq_true rfl) (fun p e s m args below meth c ls ha X J hl => ?_)
  have hx := X.1
  have hb := X.2.1
  have hl : lv_has ls 8 [(0, .ref (ad 0))] := hl
  generalize s.heap = H at J ⊢
  generalize ([] : List Loc) = locs at J ⊢
  show W p l e (zRm (11)) s m args below meth c H locs 0 0 (zQi D cy shR ad ts lnR below args s (r, u)) (F0 m 0 ls [])
  unfold fX12_assignment at hf
  refine lv_aload_n hx hb dX12_assignment_0 rfl (lv_at hl 0 rfl) ?_
  refine gf_X12_199 X J dX12_assignment_1 ?_
  refine lv_topi (fun x1 eq => ?_)
  have hf := bnd_eq eq hf
  clear eq
  refine lv_istore_n hx hb dX12_assignment_4 rfl hl (by decide) rfl (fun ls hl => ?_)
  have hl : lv_has ls 8 [(1, .int x1), (0, .ref (ad 0))] := hl
  refine lv_aload_n hx hb dX12_assignment_5 rfl (lv_at hl 1 rfl) ?_
  refine gf_X12_202 X J dX12_assignment_6 ?_
  refine lv_topl (fun x2 eq => ?_)
  have hf := bnd_eq eq hf
  clear eq
  refine lv_lstore_n hx hb dX12_assignment_9 rfl hl (by decide) rfl (fun ls hl => ?_)
  have hl : lv_has ls 8 [(2, .long x2), (1, .int x1), (0, .ref (ad 0))] := hl
  refine lv_aload_n hx hb dX12_assignment_10 rfl (lv_at hl 2 rfl) ?_
  refine lv_lload_n hx hb dX12_assignment_11 rfl (lv_at hl 0 rfl) ?_
  obtain ⟨r3, σ4, hc, hf⟩ := obd_some hf
  refine zr_calli (As := [.long x2]) (rest := []) X J 0 ho_R_X12.1 ho_R_X12.2.1 ho_R_X12.2.2 yy_X12_localOf mw_methodLink_TinyCModel_324_TinyCModel_localOf_JI (d := 0) (zR_ok (by omega) (by decide)) hl.1 rfl (Nat.le_of_ble_eq_true rfl) (tX12_localOf  hc) dX12_assignment_12 (fun H locs J => ?_)
  refine lv_istore hx hb dX12_assignment_15 hl (by decide) rfl (fun ls hl => ?_)
  have hl : lv_has ls 8 [(4, .int r3), (2, .long x2), (1, .int x1), (0, .ref (ad 0))] := hl
  refine lv_aload_n hx hb dX12_assignment_17 rfl (lv_at hl 3 rfl) ?_
  refine lv_lload_n hx hb dX12_assignment_18 rfl (lv_at hl 1 rfl) ?_
  obtain ⟨r5, σ6, hc, hf⟩ := obd_some hf
  refine zr_calli (As := [.long x2]) (rest := []) X J 0 ho_R_X12.1 ho_R_X12.2.1 ho_R_X12.2.2 yy_X12_named mw_methodLink_TinyCModel_286_TinyCModel_named_JI (d := 0) (zR_ok (by omega) (by decide)) hl.1 rfl (Nat.le_of_ble_eq_true rfl) (tX12_named  hc) dX12_assignment_19 (fun H locs J => ?_)
  refine lv_istore hx hb dX12_assignment_22 hl (by decide) rfl (fun ls hl => ?_)
  have hl : lv_has ls 8 [(5, .int r5), (4, .int r3), (2, .long x2), (1, .int x1), (0, .ref (ad 0))] := hl
  refine lv_iload hx hb dX12_assignment_24 (lv_at hl 1 rfl) ?_
  refine lv_if_ge hx hb dX12_assignment_26 rfl (fun h => ?_) (fun h => ?_)
  · have hf := itp h hf
    exact bX12_assignment_42 X   J (lv_sub hl [4, 3, 1, 0] rfl) hf
  · have hf := itn h hf
    refine lv_iload hx hb dX12_assignment_29 (lv_at hl 0 rfl) ?_
    refine lv_if_ge hx hb dX12_assignment_31 rfl (fun h => ?_) (fun h => ?_)
    · have hf := itp h hf
      exact bX12_assignment_42 X   J (lv_sub hl [4, 3, 1, 0] rfl) hf
    · have hf := itn h hf
      refine lv_aload_n hx hb dX12_assignment_34 rfl (lv_at hl 4 rfl) ?_
      refine lv_iconst (v := (3 : Int32)) hx hb dX12_assignment_35 (by decide) ?_
      refine lv_iload_n hx hb dX12_assignment_36 rfl (lv_at hl 3 rfl) ?_
      obtain ⟨r59, σ60, hc, hf⟩ := obd_some hf
      refine zr_callv (As := [.int (3 : Int32), .int x1]) (rest := []) X J 0 ho_R_X12.1 ho_R_X12.2.1 ho_R_X12.2.2 yy_X12_fails mw_methodLink_TinyCModel_239_TinyCModel_fails_IIV (d := 0) (zR_ok (by omega) (by decide)) hl.1 rfl (Nat.le_of_ble_eq_true rfl) (tX12_fails  hc) dX12_assignment_37 (fun H locs J => ?_)
      refine lv_iconst (v := (-1 : Int32)) hx hb dX12_assignment_40 (by decide) ?_
      exact zr_iret X J hf dX12_assignment_41
end
