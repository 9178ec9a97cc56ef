section
variable {p : Program} {l : Launch} {e : Env} {s : State} {m : MethodId} {args : Array Value} {below : List Frame} {meth : Method} {c : Code} {D : va_G} {cy : Nat → ClassId} {ad ts : Nat → Nat} {N : Nat}
set_option maxHeartbeats 4000000 in
theorem bX12_make_113 {o : Unit × zSt} (X : zX p s m args meth c D cy shR ad ts cX12_make 2 none RX12) {k28 : Int32 → zSt → Option (Unit × zSt)} (hk28 : ∀ (x1_ : Int32) (σ : zSt) (H : Heap) (locs : List Loc) (ls : Array Slot), zJ D cy shR ad lnR s σ H locs → lv_has ls 2 [(0, .ref (ad 0)), (1, .int x1_)] → k28 x1_ σ = some o → W p l e (zRm (4)) s m args below meth c H locs 0 0 (zQv D cy shR ad ts lnR below args s o) (F0 m 28 ls [])) {x1_ : Int32}  {σ : zSt} {H : Heap} {locs : List Loc} {ls : Array Slot} (J : zJ D cy shR ad lnR s σ H locs) (hl : lv_has ls 2 [(0, .ref (ad 0)), (1, .int x1_)]) (hf : fX12_make_b113 N k28 x1_ σ = some o) : W p l e (zRm (4)) s m args below meth c H locs 0 0 (zQv D cy shR ad ts lnR below args s o) (F0 m 113 ls []) := by
  have hx := X.1
  have hb := X.2.1
  unfold fX12_make_b113 at hf
  obtain ⟨x14, eq⟩ : ∃ z, z = x1_ + (1 : Int32) := ⟨_, rfl⟩
  have hf := bnd_eq eq hf
  refine lv_iinc hx hb dX12_make_113 hl (k := 1) rfl (v := x14) (by rw [eq]; rfl) (by decide) rfl (fun ls hl => ?_)
  clear eq
  have hl : lv_has ls 2 [(1, .int x14), (0, .ref (ad 0))] := hl
  refine lv_goto hx hb dX12_make_116 rfl ?_
  exact hk28 _ _ _ _ _ J (lv_sub hl [1, 0] rfl) hf
set_option maxHeartbeats 4000000 in
theorem bX12_make_28 {o : Unit × zSt} (X : zX p s m args meth c D cy shR ad ts cX12_make 2 none RX12)  : ∀ (n : Nat) (x1_ : Int32) (σ : zSt) (H : Heap) (locs : List Loc) (ls : Array Slot), zJ D cy shR ad lnR s σ H locs → lv_has ls 2 [(0, .ref (ad 0)), (1, .int x1_)] → fX12_make_b28 N  n x1_ σ = some o → W p l e (zRm (4)) s m args below meth c H locs 0 0 (zQv D cy shR ad ts lnR below args s o) (F0 m 28 ls []) := by
  have hx := X.1
  have hb := X.2.1
  intro n
  induction n with
  | zero =>
    intro x1_ σ H locs ls J hl hf
    rw [fX12_make_b28] at hf
    cases hf
  | succ n ih =>
    intro x1_ σ H locs ls J hl hf
    rw [fX12_make_b28] at hf
    refine lv_iload_n hx hb dX12_make_28 rfl (lv_at hl 1 rfl) ?_
    refine lv_aload_n hx hb dX12_make_29 rfl (lv_at hl 0 rfl) ?_
    refine gf_X12_256 X J dX12_make_30 ?_
    refine lv_icmp_ge hx hb dX12_make_33 rfl (fun h => ?_) (fun h => ?_)
    · have hf := itp h hf
      refine lv_aload_n hx hb dX12_make_119 rfl (lv_at hl 0 rfl) ?_
      refine gf_X12_111 X J dX12_make_120 ?_
      refine lv_iconst (v := (1 : Int32)) hx hb dX12_make_123 (by decide) ?_
      refine lv_aload_n hx hb dX12_make_124 rfl (lv_at hl 0 rfl) ?_
      refine gf_X12_114 X J dX12_make_125 ?_
      refine lv_aload_n hx hb dX12_make_128 rfl (lv_at hl 0 rfl) ?_
      refine lv_ldc2 (v := (1835100526 : Int64)) hx hb X.2.2.2.1 (X.2.2.2.2.1 _ mw_constantLong_TinyCModel_284) dX12_make_129 ?_
      obtain ⟨r11, σ12, hc, hf⟩ := obd_some hf
      refine zr_calli (As := [.long (1835100526 : Int64)]) (rest := [.ref (ad 35), .int (1 : Int32), .ref (ad 34)]) X J 0 ho_R_X12.1 ho_R_X12.2.1 ho_R_X12.2.2 yy_X12_named mw_methodLink_TinyCModel_286_TinyCModel_named_JI (d := 0) (zR_ok (by omega) (by decide)) hl.1 rfl (Nat.le_of_ble_eq_true rfl) (tX12_named  hc) dX12_make_132 (fun H locs J => ?_)
      obtain ⟨hin, hf⟩ := itx hf
      refine al_X12_X12f62 X J hin dX12_make_135 ?_
      obtain ⟨hin, hf⟩ := itx hf
      refine as_X12_X12f60 X J hin dX12_make_136 (fun σ13 H locs eq J => ?_)
      have hf := bnd_eq eq hf
      clear eq
      exact zr_vret X J hf dX12_make_137
    · have hf := itn h hf
      refine lv_aload_n hx hb dX12_make_36 rfl (lv_at hl 0 rfl) ?_
      refine gf_X12_32 X J dX12_make_37 ?_
      refine lv_iload_n hx hb dX12_make_40 rfl (lv_at hl 1 rfl) ?_
      obtain ⟨hin, hf⟩ := itx hf
      refine al_X12_X12f24 X J hin dX12_make_41 ?_
      refine lv_iconst (v := (2 : Int32)) hx hb dX12_make_42 (by decide) ?_
      refine lv_icmp_ne hx hb dX12_make_43 rfl (fun h => ?_) (fun h => ?_)
      · have hf := itn h hf
        exact bX12_make_113 X ih  J (lv_sub hl [0, 1] rfl) hf
      · have hf := itp h hf
        refine lv_aload_n hx hb dX12_make_46 rfl (lv_at hl 0 rfl) ?_
        refine gf_X12_114 X J dX12_make_47 ?_
        refine lv_iload_n hx hb dX12_make_50 rfl (lv_at hl 1 rfl) ?_
        refine lv_aload_n hx hb dX12_make_51 rfl (lv_at hl 0 rfl) ?_
        refine gf_X12_421 X J dX12_make_52 ?_
        obtain ⟨hin, hf⟩ := itx hf
        refine as_X12_X12f62 X J hin dX12_make_55 (fun σ15 H locs eq J => ?_)
        have hf := bnd_eq eq hf
        clear eq
        refine lv_aload_n hx hb dX12_make_56 rfl (lv_at hl 0 rfl) ?_
        refine lv_bipush (v := (37 : Int32)) hx hb dX12_make_57 (by decide) ?_
        obtain ⟨r16, σ17, hc, hf⟩ := obd_some hf
        refine zr_callv (As := [.int (37 : Int32)]) (rest := []) X J 0 ho_R_X12.1 ho_R_X12.2.1 ho_R_X12.2.2 yy_X12_put mw_methodLink_TinyCModel_424_TinyCModel_put_IV (d := 0) (zR_ok (by omega) (by decide)) hl.1 rfl (Nat.le_of_ble_eq_true rfl) (tX12_put  hc) dX12_make_59 (fun H locs J => ?_)
        refine lv_aload_n hx hb dX12_make_62 rfl (lv_at hl 0 rfl) ?_
        refine lv_aload_n hx hb dX12_make_63 rfl (lv_at hl 0 rfl) ?_
        refine gf_X12_44 X J dX12_make_64 ?_
        refine lv_iload_n hx hb dX12_make_67 rfl (lv_at hl 1 rfl) ?_
        obtain ⟨hin, hf⟩ := itx hf
        refine al_X12_X12f28 X J hin dX12_make_68 ?_
        obtain ⟨r18, σ19, hc, hf⟩ := obd_some hf
        refine zr_callv (As := [.int (zA σ17 12 x1_.toNatClampNeg)]) (rest := []) X J 0 ho_R_X12.1 ho_R_X12.2.1 ho_R_X12.2.2 yy_X12_put mw_methodLink_TinyCModel_424_TinyCModel_put_IV (d := 0) (zR_ok (by omega) (by decide)) hl.1 rfl (Nat.le_of_ble_eq_true rfl) (tX12_put  hc) dX12_make_69 (fun H locs J => ?_)
        refine lv_aload_n hx hb dX12_make_72 rfl (lv_at hl 0 rfl) ?_
        refine lv_iload_n hx hb dX12_make_73 rfl (lv_at hl 1 rfl) ?_
        refine pf_X12_312 X J dX12_make_74 (fun σ20 H locs eq J => ?_)
        have hf := bnd_eq eq hf
        clear eq
        refine lv_aload_n hx hb dX12_make_77 rfl (lv_at hl 0 rfl) ?_
        refine lv_aload_n hx hb dX12_make_78 rfl (lv_at hl 0 rfl) ?_
        refine gf_X12_41 X J dX12_make_79 ?_
        refine lv_iload_n hx hb dX12_make_82 rfl (lv_at hl 1 rfl) ?_
        obtain ⟨hin, hf⟩ := itx hf
        refine al_X12_X12f27 X J hin dX12_make_83 ?_
        obtain ⟨r21, σ22, hc, hf⟩ := obd_some hf
        refine zr_callv (As := [.int (zA σ20 11 x1_.toNatClampNeg)]) (rest := []) X J 0 ho_R_X12.1 ho_R_X12.2.1 ho_R_X12.2.2 yy_X12_makeS mw_methodLink_TinyCModel_427_TinyCModel_makeS_IV (d := 3) (zR_ok (by omega) (by decide)) hl.1 rfl (Nat.le_of_ble_eq_true rfl) (tX12_makeS  hc) dX12_make_84 (fun H locs J => ?_)
        refine lv_aload_n hx hb dX12_make_87 rfl (lv_at hl 0 rfl) ?_
        refine lv_iconst (v := (1 : Int32)) hx hb dX12_make_88 (by decide) ?_
        obtain ⟨r23, σ24, hc, hf⟩ := obd_some hf
        refine zr_callv (As := [.int (1 : Int32)]) (rest := []) X J 0 ho_R_X12.1 ho_R_X12.2.1 ho_R_X12.2.2 yy_X12_put mw_methodLink_TinyCModel_424_TinyCModel_put_IV (d := 0) (zR_ok (by omega) (by decide)) hl.1 rfl (Nat.le_of_ble_eq_true rfl) (tX12_put  hc) dX12_make_89 (fun H locs J => ?_)
        refine lv_aload_n hx hb dX12_make_92 rfl (lv_at hl 0 rfl) ?_
        refine lv_iconst (v := (0 : Int32)) hx hb dX12_make_93 (by decide) ?_
        obtain ⟨r25, σ26, hc, hf⟩ := obd_some hf
        refine zr_callv (As := [.int (0 : Int32)]) (rest := []) X J 0 ho_R_X12.1 ho_R_X12.2.1 ho_R_X12.2.2 yy_X12_put mw_methodLink_TinyCModel_424_TinyCModel_put_IV (d := 0) (zR_ok (by omega) (by decide)) hl.1 rfl (Nat.le_of_ble_eq_true rfl) (tX12_put  hc) dX12_make_94 (fun H locs J => ?_)
        refine lv_aload_n hx hb dX12_make_97 rfl (lv_at hl 0 rfl) ?_
        refine lv_bipush (v := (33 : Int32)) hx hb dX12_make_98 (by decide) ?_
        obtain ⟨r27, σ28, hc, hf⟩ := obd_some hf
        refine zr_callv (As := [.int (33 : Int32)]) (rest := []) X J 0 ho_R_X12.1 ho_R_X12.2.1 ho_R_X12.2.2 yy_X12_put mw_methodLink_TinyCModel_424_TinyCModel_put_IV (d := 0) (zR_ok (by omega) (by decide)) hl.1 rfl (Nat.le_of_ble_eq_true rfl) (tX12_put  hc) dX12_make_100 (fun H locs J => ?_)
        refine lv_aload_n hx hb dX12_make_103 rfl (lv_at hl 0 rfl) ?_
        refine lv_aload_n hx hb dX12_make_104 rfl (lv_at hl 0 rfl) ?_
        refine gf_X12_38 X J dX12_make_105 ?_
        refine lv_iload_n hx hb dX12_make_108 rfl (lv_at hl 1 rfl) ?_
        obtain ⟨hin, hf⟩ := itx hf
        refine al_X12_X12f26 X J hin dX12_make_109 ?_
        obtain ⟨r29, σ30, hc, hf⟩ := obd_some hf
        refine zr_callv (As := [.int (zA σ28 10 x1_.toNatClampNeg)]) (rest := []) X J 0 ho_R_X12.1 ho_R_X12.2.1 ho_R_X12.2.2 yy_X12_put mw_methodLink_TinyCModel_424_TinyCModel_put_IV (d := 0) (zR_ok (by omega) (by decide)) hl.1 rfl (Nat.le_of_ble_eq_true rfl) (tX12_put  hc) dX12_make_110 (fun H locs J => ?_)
        exact bX12_make_113 X ih  J (lv_sub hl [0, 1] rfl) hf
set_option maxHeartbeats 4000000 in
theorem tX12_make   {σ u : zSt} {r : Unit} (hf : fX12_make N  σ = some (r, u)) : zMv l yX12_make cX12_make 2 none (4) D cy shR ad ts lnR [.ref (ad 0)] σ u := by
  refine zM_of (by decide) (Nat.le_of_ble_eq_true rfl) (fun p e s m args below meth c ls ha X J hl => ?_)
  have hx := X.1
  have hb := X.2.1
  have hl : lv_has ls 2 [(0, .ref (ad 0))] := hl
  generalize s.heap = H at J ⊢
  generalize ([] : List Loc) = locs at J ⊢
  show W p l e (zRm (4)) s m args below meth c H locs 0 0 (zQv D cy shR ad ts lnR below args s (r, u)) (F0 m 0 ls [])
  unfold fX12_make at hf
  refine lv_aload_n hx hb dX12_make_0 rfl (lv_at hl 0 rfl) ?_
  refine lv_iconst (v := (0 : Int32)) hx hb dX12_make_1 (by decide) ?_
  refine pf_X12_421 X J dX12_make_2 (fun σ1 H locs eq J => ?_)
  have hf := bnd_eq eq hf
  clear eq
  refine lv_aload_n hx hb dX12_make_5 rfl (lv_at hl 0 rfl) ?_
  refine lv_bipush (v := (32 : Int32)) hx hb dX12_make_6 (by decide) ?_
  obtain ⟨r2, σ3, hc, hf⟩ := obd_some hf
  refine zr_callv (As := [.int (32 : Int32)]) (rest := []) X J 0 ho_R_X12.1 ho_R_X12.2.1 ho_R_X12.2.2 yy_X12_put mw_methodLink_TinyCModel_424_TinyCModel_put_IV (d := 0) (zR_ok (by omega) (by decide)) hl.1 rfl (Nat.le_of_ble_eq_true rfl) (tX12_put  hc) dX12_make_8 (fun H locs J => ?_)
  refine lv_aload_n hx hb dX12_make_11 rfl (lv_at hl 0 rfl) ?_
  refine lv_iconst (v := (0 : Int32)) hx hb dX12_make_12 (by decide) ?_
  obtain ⟨r4, σ5, hc, hf⟩ := obd_some hf
  refine zr_callv (As := [.int (0 : Int32)]) (rest := []) X J 0 ho_R_X12.1 ho_R_X12.2.1 ho_R_X12.2.2 yy_X12_put mw_methodLink_TinyCModel_424_TinyCModel_put_IV (d := 0) (zR_ok (by omega) (by decide)) hl.1 rfl (Nat.le_of_ble_eq_true rfl) (tX12_put  hc) dX12_make_13 (fun H locs J => ?_)
  refine lv_aload_n hx hb dX12_make_16 rfl (lv_at hl 0 rfl) ?_
  refine lv_iconst (v := (0 : Int32)) hx hb dX12_make_17 (by decide) ?_
  obtain ⟨r6, σ7, hc, hf⟩ := obd_some hf
  refine zr_callv (As := [.int (0 : Int32)]) (rest := []) X J 0 ho_R_X12.1 ho_R_X12.2.1 ho_R_X12.2.2 yy_X12_put mw_methodLink_TinyCModel_424_TinyCModel_put_IV (d := 0) (zR_ok (by omega) (by decide)) hl.1 rfl (Nat.le_of_ble_eq_true rfl) (tX12_put  hc) dX12_make_18 (fun H locs J => ?_)
  refine lv_aload_n hx hb dX12_make_21 rfl (lv_at hl 0 rfl) ?_
  refine lv_iconst (v := (0 : Int32)) hx hb dX12_make_22 (by decide) ?_
  obtain ⟨r8, σ9, hc, hf⟩ := obd_some hf
  refine zr_callv (As := [.int (0 : Int32)]) (rest := []) X J 0 ho_R_X12.1 ho_R_X12.2.1 ho_R_X12.2.2 yy_X12_put mw_methodLink_TinyCModel_424_TinyCModel_put_IV (d := 0) (zR_ok (by omega) (by decide)) hl.1 rfl (Nat.le_of_ble_eq_true rfl) (tX12_put  hc) dX12_make_23 (fun H locs J => ?_)
  refine lv_iconst (v := (0 : Int32)) hx hb dX12_make_26 (by decide) ?_
  refine lv_topi (fun x10 eq => ?_)
  have hf := bnd_eq eq hf
  clear eq
  refine lv_istore_n hx hb dX12_make_27 rfl hl (by decide) rfl (fun ls hl => ?_)
  have hl : lv_has ls 2 [(1, .int x10), (0, .ref (ad 0))] := hl
  exact bX12_make_28 X  N _ _ _ _ _ J (lv_sub hl [1, 0] rfl) hf
set_option maxHeartbeats 4000000 in
theorem bX12_readKept_18 {o : Unit × zSt} (X : zX p s m args meth c D cy shR ad ts cX12_readKept 2 none RX12)  : ∀ (n : Nat) (x1_ : Int32) (σ : zSt) (H : Heap) (locs : List Loc) (ls : Array Slot), zJ D cy shR ad lnR s σ H locs → lv_has ls 2 [(0, .ref (ad 0)), (1, .int x1_)] → fX12_readKept_b18 N  n x1_ σ = some o → W p l e (zRm (18)) s m args below meth c H locs 0 0 (zQv D cy shR ad ts lnR below args s o) (F0 m 18 ls []) := by
  have hx := X.1
  have hb := X.2.1
  intro n
  induction n with
  | zero =>
    intro x1_ σ H locs ls J hl hf
    rw [fX12_readKept_b18] at hf
    cases hf
  | succ n ih =>
    intro x1_ σ H locs ls J hl hf
    rw [fX12_readKept_b18] at hf
    refine lv_iload_n hx hb dX12_readKept_18 rfl (lv_at hl 1 rfl) ?_
    refine lv_aload_n hx hb dX12_readKept_19 rfl (lv_at hl 0 rfl) ?_
    refine gf_X12_193 X J dX12_readKept_20 ?_
    refine lv_icmp_ge hx hb dX12_readKept_23 rfl (fun h => ?_) (fun h => ?_)
    · have hf := itp h hf
      refine lv_aload_n hx hb dX12_readKept_44 rfl (lv_at hl 0 rfl) ?_
      obtain ⟨r3, σ4, hc, hf⟩ := obd_some hf
      refine zr_callv (As := []) (rest := []) X J 0 ho_R_X12.1 ho_R_X12.2.1 ho_R_X12.2.2 yy_X12_read mw_methodLink_TinyCModel_460_TinyCModel_read_V (d := 17) (zR_ok (by omega) (by decide)) hl.1 rfl (Nat.le_of_ble_eq_true rfl) (tX12_read  hc) dX12_readKept_45 (fun H locs J => ?_)
      exact zr_vret X J hf dX12_readKept_48
    · have hf := itn h hf
      refine lv_aload_n hx hb dX12_readKept_26 rfl (lv_at hl 0 rfl) ?_
      refine gf_X12_25 X J dX12_readKept_27 ?_
      refine lv_iload_n hx hb dX12_readKept_30 rfl (lv_at hl 1 rfl) ?_
      refine lv_aload_n hx hb dX12_readKept_31 rfl (lv_at hl 0 rfl) ?_
      refine gf_X12_132 X J dX12_readKept_32 ?_
      refine lv_iload_n hx hb dX12_readKept_35 rfl (lv_at hl 1 rfl) ?_
      obtain ⟨hin, hf⟩ := itx hf
      refine al_X12_X12f69 X J hin dX12_readKept_36 ?_
      obtain ⟨hin, hf⟩ := itx hf
      refine as_X12_X12f15 X J hin dX12_readKept_37 (fun σ5 H locs eq J => ?_)
      have hf := bnd_eq eq hf
      clear eq
      obtain ⟨x6, eq⟩ : ∃ z, z = x1_ + (1 : Int32) := ⟨_, rfl⟩
      have hf := bnd_eq eq hf
      refine lv_iinc hx hb dX12_readKept_38 hl (k := 1) rfl (v := x6) (by rw [eq]; rfl) (by decide) rfl (fun ls hl => ?_)
      clear eq
      have hl : lv_has ls 2 [(1, .int x6), (0, .ref (ad 0))] := hl
      refine lv_goto hx hb dX12_readKept_41 rfl ?_
      exact ih _ _ _ _ _ J (lv_sub hl [1, 0] rfl) hf
set_option maxHeartbeats 4000000 in
theorem tX12_readKept   {σ u : zSt} {r : Unit} (hf : fX12_readKept N  σ = some (r, u)) : zMv l yX12_readKept cX12_readKept 2 none (18) D cy shR ad ts lnR [.ref (ad 0)] σ u := by
  refine zM_of (by decide) (Nat.le_of_ble_eq_true rfl) (fun p e s m args below meth c ls ha X J hl => ?_)
  have hx := X.1
  have hb := X.2.1
  have hl : lv_has ls 2 [(0, .ref (ad 0))] := hl
  generalize s.heap = H at J ⊢
  generalize ([] : List Loc) = locs at J ⊢
  show W p l e (zRm (18)) s m args below meth c H locs 0 0 (zQv D cy shR ad ts lnR below args s (r, u)) (F0 m 0 ls [])
  unfold fX12_readKept at hf
  refine lv_aload_n hx hb dX12_readKept_0 rfl (lv_at hl 0 rfl) ?_
  refine gf_X12_475 X J dX12_readKept_1 ?_
  refine lv_if_ne hx hb dX12_readKept_4 rfl (fun h => ?_) (fun h => ?_)
  · have hf := itn h hf
    refine lv_aload_n hx hb dX12_readKept_8 rfl (lv_at hl 0 rfl) ?_
    refine lv_aload_n hx hb dX12_readKept_9 rfl (lv_at hl 0 rfl) ?_
    refine gf_X12_469 X J dX12_readKept_10 ?_
    refine pf_X12_193 X J dX12_readKept_13 (fun σ1 H locs eq J => ?_)
    have hf := bnd_eq eq hf
    clear eq
    refine lv_iconst (v := (0 : Int32)) hx hb dX12_readKept_16 (by decide) ?_
    refine lv_topi (fun x2 eq => ?_)
    have hf := bnd_eq eq hf
    clear eq
    refine lv_istore_n hx hb dX12_readKept_17 rfl hl (by decide) rfl (fun ls hl => ?_)
    have hl : lv_has ls 2 [(1, .int x2), (0, .ref (ad 0))] := hl
    exact bX12_readKept_18 X  N _ _ _ _ _ J (lv_sub hl [1, 0] rfl) hf
  · have hf := itp h hf
    exact zr_vret X J hf dX12_readKept_7
set_option maxHeartbeats 4000000 in
theorem tX12_push {a1_ : Int32} {a2_ : Int32}  {σ u : zSt} {r : Unit} (hf : fX12_push N a1_ a2_ σ = some (r, u)) : zMv l yX12_push cX12_push 3 none (0) D cy shR ad ts lnR [.ref (ad 0), .int a1_, .int a2_] σ u := by
  refine zM_of (by decide) (Nat.le_of_ble_eq_true rfl) (fun p e s m args below meth c ls ha X J hl => ?_)
  have hx := X.1
  have hb := X.2.1
  have hl : lv_has ls 3 [(0, .ref (ad 0)), (1, .int a1_), (2, .int a2_)] := hl
  generalize s.heap = H at J ⊢
  generalize ([] : List Loc) = locs at J ⊢
  show W p l e (zRm (0)) s m args below meth c H locs 0 0 (zQv D cy shR ad ts lnR below args s (r, u)) (F0 m 0 ls [])
  unfold fX12_push at hf
  refine lv_aload_n hx hb dX12_push_0 rfl (lv_at hl 0 rfl) ?_
  refine gf_X12_141 X J dX12_push_1 ?_
  refine lv_aload_n hx hb dX12_push_4 rfl (lv_at hl 0 rfl) ?_
  refine gf_X12_509 X J dX12_push_5 ?_
  refine lv_iload_n hx hb dX12_push_8 rfl (lv_at hl 1 rfl) ?_
  obtain ⟨hin, hf⟩ := itx hf
  refine as_X12_X12f80 X J hin dX12_push_9 (fun σ1 H locs eq J => ?_)
  have hf := bnd_eq eq hf
  clear eq
  refine lv_aload_n hx hb dX12_push_10 rfl (lv_at hl 0 rfl) ?_
  refine gf_X12_144 X J dX12_push_11 ?_
  refine lv_aload_n hx hb dX12_push_14 rfl (lv_at hl 0 rfl) ?_
  refine gf_X12_509 X J dX12_push_15 ?_
  refine lv_iload_n hx hb dX12_push_18 rfl (lv_at hl 2 rfl) ?_
  obtain ⟨hin, hf⟩ := itx hf
  refine as_X12_X12f81 X J hin dX12_push_19 (fun σ2 H locs eq J => ?_)
  have hf := bnd_eq eq hf
  clear eq
  refine lv_aload_n hx hb dX12_push_20 rfl (lv_at hl 0 rfl) ?_
  refine lv_dup hx hb dX12_push_21 rfl ?_
  refine gf_X12_509 X J dX12_push_22 ?_
  refine lv_iconst (v := (1 : Int32)) hx hb dX12_push_25 (by decide) ?_
  refine lv_iadd hx hb dX12_push_26 ?_
  refine pf_X12_509 X J dX12_push_27 (fun σ3 H locs eq J => ?_)
  have hf := bnd_eq eq hf
  clear eq
  exact zr_vret X J hf dX12_push_30
set_option maxHeartbeats 4000000 in
theorem bX12_reset_2 {o : Unit × zSt} (X : zX p s m args meth c D cy shR ad ts cX12_reset 2 none RX12)  : ∀ (n : Nat) (x1_ : Int32) (σ : zSt) (H : Heap) (locs : List Loc) (ls : Array Slot), zJ D cy shR ad lnR s σ H locs → lv_has ls 2 [(0, .ref (ad 0)), (1, .int x1_)] → fX12_reset_b2 N  n x1_ σ = some o → W p l e (zRm (1)) s m args below meth c H locs 0 0 (zQv D cy shR ad ts lnR below args s o) (F0 m 2 ls []) := by
  have hx := X.1
  have hb := X.2.1
  intro n
  induction n with
  | zero =>
    intro x1_ σ H locs ls J hl hf
    rw [fX12_reset_b2] at hf
    cases hf
  | succ n ih =>
    intro x1_ σ H locs ls J hl hf
    rw [fX12_reset_b2] at hf
    refine lv_iload_n hx hb dX12_reset_2 rfl (lv_at hl 1 rfl) ?_
    refine lv_sipush (v := (4096 : Int32)) hx hb dX12_reset_3 (by decide) ?_
    refine lv_icmp_ge hx hb dX12_reset_6 rfl (fun h => ?_) (fun h => ?_)
    · have hf := itp h hf
      refine lv_aload_n hx hb dX12_reset_29 rfl (lv_at hl 0 rfl) ?_
      refine lv_iconst (v := (0 : Int32)) hx hb dX12_reset_30 (by decide) ?_
      refine pf_X12_485 X J dX12_reset_31 (fun σ2 H locs eq J => ?_)
      have hf := bnd_eq eq hf
      clear eq
      refine lv_aload_n hx hb dX12_reset_34 rfl (lv_at hl 0 rfl) ?_
      refine lv_aload_n hx hb dX12_reset_35 rfl (lv_at hl 0 rfl) ?_
      refine gf_X12_278 X J dX12_reset_36 ?_
      refine pf_X12_488 X J dX12_reset_39 (fun σ3 H locs eq J => ?_)
      have hf := bnd_eq eq hf
      clear eq
      refine lv_aload_n hx hb dX12_reset_42 rfl (lv_at hl 0 rfl) ?_
      refine lv_iconst (v := (0 : Int32)) hx hb dX12_reset_43 (by decide) ?_
      refine pf_X12_491 X J dX12_reset_44 (fun σ4 H locs eq J => ?_)
      have hf := bnd_eq eq hf
      clear eq
      refine lv_aload_n hx hb dX12_reset_47 rfl (lv_at hl 0 rfl) ?_
      refine lv_iconst (v := (0 : Int32)) hx hb dX12_reset_48 (by decide) ?_
      refine pf_X12_494 X J dX12_reset_49 (fun σ5 H locs eq J => ?_)
      have hf := bnd_eq eq hf
      clear eq
      refine lv_aload_n hx hb dX12_reset_52 rfl (lv_at hl 0 rfl) ?_
      refine lv_iconst (v := (0 : Int32)) hx hb dX12_reset_53 (by decide) ?_
      refine pf_X12_497 X J dX12_reset_54 (fun σ6 H locs eq J => ?_)
      have hf := bnd_eq eq hf
      clear eq
      refine lv_aload_n hx hb dX12_reset_57 rfl (lv_at hl 0 rfl) ?_
      refine lv_iconst (v := (0 : Int32)) hx hb dX12_reset_58 (by decide) ?_
      refine pf_X12_500 X J dX12_reset_59 (fun σ7 H locs eq J => ?_)
      have hf := bnd_eq eq hf
      clear eq
      refine lv_aload_n hx hb dX12_reset_62 rfl (lv_at hl 0 rfl) ?_
      refine lv_iconst (v := (0 : Int32)) hx hb dX12_reset_63 (by decide) ?_
      refine pf_X12_503 X J dX12_reset_64 (fun σ8 H locs eq J => ?_)
      have hf := bnd_eq eq hf
      clear eq
      refine lv_aload_n hx hb dX12_reset_67 rfl (lv_at hl 0 rfl) ?_
      refine lv_iconst (v := (0 : Int32)) hx hb dX12_reset_68 (by decide) ?_
      refine pf_X12_506 X J dX12_reset_69 (fun σ9 H locs eq J => ?_)
      have hf := bnd_eq eq hf
      clear eq
      refine lv_aload_n hx hb dX12_reset_72 rfl (lv_at hl 0 rfl) ?_
      refine lv_iconst (v := (0 : Int32)) hx hb dX12_reset_73 (by decide) ?_
      refine pf_X12_509 X J dX12_reset_74 (fun σ10 H locs eq J => ?_)
      have hf := bnd_eq eq hf
      clear eq
      refine lv_aload_n hx hb dX12_reset_77 rfl (lv_at hl 0 rfl) ?_
      refine lv_iconst (v := (0 : Int32)) hx hb dX12_reset_78 (by decide) ?_
      refine pf_X12_512 X J dX12_reset_79 (fun σ11 H locs eq J => ?_)
      have hf := bnd_eq eq hf
      clear eq
      refine lv_aload_n hx hb dX12_reset_82 rfl (lv_at hl 0 rfl) ?_
      refine lv_iconst (v := (0 : Int32)) hx hb dX12_reset_83 (by decide) ?_
      refine pf_X12_515 X J dX12_reset_84 (fun σ12 H locs eq J => ?_)
      have hf := bnd_eq eq hf
      clear eq
      refine lv_aload_n hx hb dX12_reset_87 rfl (lv_at hl 0 rfl) ?_
      refine gf_X12_475 X J dX12_reset_88 ?_
      refine lv_if_eq hx hb dX12_reset_91 rfl (fun h => ?_) (fun h => ?_)
      · have hf := itp h hf
        exact zr_vret X J hf dX12_reset_100
      · have hf := itn h hf
        refine lv_aload_n hx hb dX12_reset_94 rfl (lv_at hl 0 rfl) ?_
        refine lv_iconst (v := (1 : Int32)) hx hb dX12_reset_95 (by decide) ?_
        refine lv_iconst (v := (-1 : Int32)) hx hb dX12_reset_96 (by decide) ?_
        obtain ⟨r13, σ14, hc, hf⟩ := obd_some hf
        refine zr_callv (As := [.int (1 : Int32), .int (-1 : Int32)]) (rest := []) X J 0 ho_R_X12.1 ho_R_X12.2.1 ho_R_X12.2.2 yy_X12_push mw_methodLink_TinyCModel_518_TinyCModel_push_IIV (d := 0) (zR_ok (by omega) (by decide)) hl.1 rfl (Nat.le_of_ble_eq_true rfl) (tX12_push  hc) dX12_reset_97 (fun H locs J => ?_)
        exact zr_vret X J hf dX12_reset_100
    · have hf := itn h hf
      refine lv_aload_n hx hb dX12_reset_9 rfl (lv_at hl 0 rfl) ?_
      refine gf_X12_16 X J dX12_reset_10 ?_
      refine lv_iload_n hx hb dX12_reset_13 rfl (lv_at hl 1 rfl) ?_
      refine lv_iconst (v := (0 : Int32)) hx hb dX12_reset_14 (by decide) ?_
      obtain ⟨hin, hf⟩ := itx hf
      refine as_X12_X12f7 X J hin dX12_reset_15 (fun σ15 H locs eq J => ?_)
      have hf := bnd_eq eq hf
      clear eq
      refine lv_aload_n hx hb dX12_reset_16 rfl (lv_at hl 0 rfl) ?_
      refine gf_X12_135 X J dX12_reset_17 ?_
      refine lv_iload_n hx hb dX12_reset_20 rfl (lv_at hl 1 rfl) ?_
      refine lv_iconst (v := (0 : Int32)) hx hb dX12_reset_21 (by decide) ?_
      obtain ⟨hin, hf⟩ := itx hf
      refine as_X12_X12f77 X J hin dX12_reset_22 (fun σ16 H locs eq J => ?_)
      have hf := bnd_eq eq hf
      clear eq
      obtain ⟨x17, eq⟩ : ∃ z, z = x1_ + (1 : Int32) := ⟨_, rfl⟩
      have hf := bnd_eq eq hf
      refine lv_iinc hx hb dX12_reset_23 hl (k := 1) rfl (v := x17) (by rw [eq]; rfl) (by decide) rfl (fun ls hl => ?_)
      clear eq
      have hl : lv_has ls 2 [(1, .int x17), (0, .ref (ad 0))] := hl
      refine lv_goto hx hb dX12_reset_26 rfl ?_
      exact ih _ _ _ _ _ J (lv_sub hl [1, 0] rfl) hf
set_option maxHeartbeats 4000000 in
theorem tX12_reset   {σ u : zSt} {r : Unit} (hf : fX12_reset N  σ = some (r, u)) : zMv l yX12_reset cX12_reset 2 none (1) D cy shR ad ts lnR [.ref (ad 0)] σ u := by
  refine zM_of (by decide) (Nat.le_of_ble_eq_true rfl) (fun p e s m args below meth c ls ha X J hl => ?_)
  have hx := X.1
  have hb := X.2.1
  have hl : lv_has ls 2 [(0, .ref (ad 0))] := hl
  generalize s.heap = H at J ⊢
  generalize ([] : List Loc) = locs at J ⊢
  show W p l e (zRm (1)) s m args below meth c H locs 0 0 (zQv D cy shR ad ts lnR below args s (r, u)) (F0 m 0 ls [])
  unfold fX12_reset at hf
  refine lv_iconst (v := (0 : Int32)) hx hb dX12_reset_0 (by decide) ?_
  refine lv_topi (fun x1 eq => ?_)
  have hf := bnd_eq eq hf
  clear eq
  refine lv_istore_n hx hb dX12_reset_1 rfl hl (by decide) rfl (fun ls hl => ?_)
  have hl : lv_has ls 2 [(1, .int x1), (0, .ref (ad 0))] := hl
  exact bX12_reset_2 X  N _ _ _ _ _ J (lv_sub hl [1, 0] rfl) hf
set_option maxHeartbeats 4000000 in
theorem bX12_compile_136 {o : Int32 × zSt} (X : zX p s m args meth c D cy shR ad ts cX12_compile 2 (some .int) RX12)  : ∀ (n : Nat) (x1_ : Int32) (σ : zSt) (H : Heap) (locs : List Loc) (ls : Array Slot), zJ D cy shR ad lnR s σ H locs → lv_has ls 2 [(0, .ref (ad 0)), (1, .int x1_)] → fX12_compile_b136 N  n x1_ σ = some o → W p l e (zRm (19)) s m args below meth c H locs 0 0 (zQi D cy shR ad ts lnR below args s o) (F0 m 136 ls []) := by
  have hx := X.1
  have hb := X.2.1
  intro n
  induction n with
  | zero =>
    intro x1_ σ H locs ls J hl hf
    rw [fX12_compile_b136] at hf
    cases hf
  | succ n ih =>
    intro x1_ σ H locs ls J hl hf
    rw [fX12_compile_b136] at hf
    refine lv_iload_n hx hb dX12_compile_136 rfl (lv_at hl 1 rfl) ?_
    refine lv_aload_n hx hb dX12_compile_137 rfl (lv_at hl 0 rfl) ?_
    refine gf_X12_472 X J dX12_compile_138 ?_
    refine lv_icmp_ge hx hb dX12_compile_141 rfl (fun h => ?_) (fun h => ?_)
    · have hf := itp h hf
      refine lv_aload_n hx hb dX12_compile_162 rfl (lv_at hl 0 rfl) ?_
      refine lv_iconst (v := (1 : Int32)) hx hb dX12_compile_163 (by decide) ?_
      refine pf_X12_475 X J (by decide) dX12_compile_164 (fun σ13 H locs eq J => ?_)
      have hf := bnd_eq eq hf
      clear eq
      refine lv_aload_n hx hb dX12_compile_167 rfl (lv_at hl 0 rfl) ?_
      obtain ⟨r14, σ15, hc, hf⟩ := obd_some hf
      refine zr_callv (As := []) (rest := []) X J 0 ho_R_X12.1 ho_R_X12.2.1 ho_R_X12.2.2 yy_X12_reset mw_methodLink_TinyCModel_479_TinyCModel_reset_V (d := 1) (zR_ok (by omega) (by decide)) hl.1 rfl (Nat.le_of_ble_eq_true rfl) (tX12_reset  hc) dX12_compile_168 (fun H locs J => ?_)
      refine lv_iconst (v := (0 : Int32)) hx hb dX12_compile_171 (by decide) ?_
      exact zr_iret X J hf dX12_compile_172
    · have hf := itn h hf
      refine lv_aload_n hx hb dX12_compile_144 rfl (lv_at hl 0 rfl) ?_
      refine gf_X12_13 X J dX12_compile_145 ?_
      refine lv_iload_n hx hb dX12_compile_148 rfl (lv_at hl 1 rfl) ?_
      refine lv_aload_n hx hb dX12_compile_149 rfl (lv_at hl 0 rfl) ?_
      refine gf_X12_111 X J dX12_compile_150 ?_
      refine lv_iload_n hx hb dX12_compile_153 rfl (lv_at hl 1 rfl) ?_
      obtain ⟨hin, hf⟩ := itx hf
      refine al_X12_X12f60 X J hin dX12_compile_154 ?_
      obtain ⟨hin, hf⟩ := itx hf
      refine as_X12_X12f4 X J hin dX12_compile_155 (fun σ16 H locs eq J => ?_)
      have hf := bnd_eq eq hf
      clear eq
      obtain ⟨x17, eq⟩ : ∃ z, z = x1_ + (1 : Int32) := ⟨_, rfl⟩
      have hf := bnd_eq eq hf
      refine lv_iinc hx hb dX12_compile_156 hl (k := 1) rfl (v := x17) (by rw [eq]; rfl) (by decide) rfl (fun ls hl => ?_)
      clear eq
      have hl : lv_has ls 2 [(1, .int x17), (0, .ref (ad 0))] := hl
      refine lv_goto hx hb dX12_compile_159 rfl ?_
      exact ih _ _ _ _ _ J (lv_sub hl [1, 0] rfl) hf
set_option maxHeartbeats 4000000 in
theorem bX12_compile_100 {o : Int32 × zSt} (X : zX p s m args meth c D cy shR ad ts cX12_compile 2 (some .int) RX12)  : ∀ (n : Nat) (x1_ : Int32) (σ : zSt) (H : Heap) (locs : List Loc) (ls : Array Slot), zJ D cy shR ad lnR s σ H locs → lv_has ls 2 [(0, .ref (ad 0)), (1, .int x1_)] → fX12_compile_b100 N  n x1_ σ = some o → W p l e (zRm (19)) s m args below meth c H locs 0 0 (zQi D cy shR ad ts lnR below args s o) (F0 m 100 ls []) := by
  have hx := X.1
  have hb := X.2.1
  intro n
  induction n with
  | zero =>
    intro x1_ σ H locs ls J hl hf
    rw [fX12_compile_b100] at hf
    cases hf
  | succ n ih =>
    intro x1_ σ H locs ls J hl hf
    rw [fX12_compile_b100] at hf
    refine lv_iload_n hx hb dX12_compile_100 rfl (lv_at hl 1 rfl) ?_
    refine lv_aload_n hx hb dX12_compile_101 rfl (lv_at hl 0 rfl) ?_
    refine gf_X12_193 X J dX12_compile_102 ?_
    refine lv_icmp_ge hx hb dX12_compile_105 rfl (fun h => ?_) (fun h => ?_)
    · have hf := itp h hf
      refine lv_aload_n hx hb dX12_compile_126 rfl (lv_at hl 0 rfl) ?_
      refine lv_aload_n hx hb dX12_compile_127 rfl (lv_at hl 0 rfl) ?_
      refine gf_X12_421 X J dX12_compile_128 ?_
      refine pf_X12_472 X J dX12_compile_131 (fun σ11 H locs eq J => ?_)
      have hf := bnd_eq eq hf
      clear eq
      refine lv_iconst (v := (0 : Int32)) hx hb dX12_compile_134 (by decide) ?_
      refine lv_topi (fun x12 eq => ?_)
      have hf := bnd_eq eq hf
      clear eq
      refine lv_istore_n hx hb dX12_compile_135 rfl hl (by decide) rfl (fun ls hl => ?_)
      have hl : lv_has ls 2 [(1, .int x12), (0, .ref (ad 0))] := hl
      exact bX12_compile_136 X  N _ _ _ _ _ J (lv_sub hl [1, 0] rfl) hf
    · have hf := itn h hf
      refine lv_aload_n hx hb dX12_compile_108 rfl (lv_at hl 0 rfl) ?_
      refine gf_X12_132 X J dX12_compile_109 ?_
      refine lv_iload_n hx hb dX12_compile_112 rfl (lv_at hl 1 rfl) ?_
      refine lv_aload_n hx hb dX12_compile_113 rfl (lv_at hl 0 rfl) ?_
      refine gf_X12_25 X J dX12_compile_114 ?_
      refine lv_iload_n hx hb dX12_compile_117 rfl (lv_at hl 1 rfl) ?_
      obtain ⟨hin, hf⟩ := itx hf
      refine al_X12_X12f15 X J hin dX12_compile_118 ?_
      obtain ⟨hin, hf⟩ := itx hf
      refine as_X12_X12f69 X J hin dX12_compile_119 (fun σ18 H locs eq J => ?_)
      have hf := bnd_eq eq hf
      clear eq
      obtain ⟨x19, eq⟩ : ∃ z, z = x1_ + (1 : Int32) := ⟨_, rfl⟩
      have hf := bnd_eq eq hf
      refine lv_iinc hx hb dX12_compile_120 hl (k := 1) rfl (v := x19) (by rw [eq]; rfl) (by decide) rfl (fun ls hl => ?_)
      clear eq
      have hl : lv_has ls 2 [(1, .int x19), (0, .ref (ad 0))] := hl
      refine lv_goto hx hb dX12_compile_123 rfl ?_
      exact ih _ _ _ _ _ J (lv_sub hl [1, 0] rfl) hf
set_option maxHeartbeats 4000000 in
theorem bX12_compile_72 {o : Int32 × zSt} (X : zX p s m args meth c D cy shR ad ts cX12_compile 2 (some .int) RX12)    {σ : zSt} {H : Heap} {locs : List Loc} {ls : Array Slot} (J : zJ D cy shR ad lnR s σ H locs) (hl : lv_has ls 2 [(0, .ref (ad 0))]) (hf : fX12_compile_b72 N   σ = some o) : W p l e (zRm (19)) s m args below meth c H locs 0 0 (zQi D cy shR ad ts lnR below args s o) (F0 m 72 ls []) := by
  have hx := X.1
  have hb := X.2.1
  unfold fX12_compile_b72 at hf
  refine lv_aload_n hx hb dX12_compile_72 rfl (lv_at hl 0 rfl) ?_
  obtain ⟨r7, σ8, hc, hf⟩ := obd_some hf
  refine zr_calli (As := []) (rest := []) X J 0 ho_R_X12.1 ho_R_X12.2.1 ho_R_X12.2.2 yy_X12_isWell mw_methodLink_TinyCModel_243_TinyCModel_isWell_Z (d := 0) (zR_ok (by omega) (by decide)) hl.1 rfl (Nat.le_of_ble_eq_true rfl) (tX12_isWell  hc) dX12_compile_73 (fun H locs J => ?_)
  refine lv_if_ne hx hb dX12_compile_76 rfl (fun h => ?_) (fun h => ?_)
  · have hf := itn h hf
    refine lv_aload_n hx hb dX12_compile_90 rfl (lv_at hl 0 rfl) ?_
    refine lv_aload_n hx hb dX12_compile_91 rfl (lv_at hl 0 rfl) ?_
    refine gf_X12_193 X J dX12_compile_92 ?_
    refine pf_X12_469 X J dX12_compile_95 (fun σ9 H locs eq J => ?_)
    have hf := bnd_eq eq hf
    clear eq
    refine lv_iconst (v := (0 : Int32)) hx hb dX12_compile_98 (by decide) ?_
    refine lv_topi (fun x10 eq => ?_)
    have hf := bnd_eq eq hf
    clear eq
    refine lv_istore_n hx hb dX12_compile_99 rfl hl (by decide) rfl (fun ls hl => ?_)
    have hl : lv_has ls 2 [(1, .int x10), (0, .ref (ad 0))] := hl
    exact bX12_compile_100 X  N _ _ _ _ _ J (lv_sub hl [1, 0] rfl) hf
  · have hf := itp h hf
    refine lv_aload_n hx hb dX12_compile_79 rfl (lv_at hl 0 rfl) ?_
    refine gf_X12_236 X J dX12_compile_80 ?_
    refine lv_topi (fun x20 eq => ?_)
    have hf := bnd_eq eq hf
    clear eq
    refine lv_istore_n hx hb dX12_compile_83 rfl hl (by decide) rfl (fun ls hl => ?_)
    have hl : lv_has ls 2 [(1, .int x20), (0, .ref (ad 0))] := hl
    refine lv_aload_n hx hb dX12_compile_84 rfl (lv_at hl 1 rfl) ?_
    obtain ⟨r21, σ22, hc, hf⟩ := obd_some hf
    refine zr_callv (As := []) (rest := []) X J 0 ho_R_X12.1 ho_R_X12.2.1 ho_R_X12.2.2 yy_X12_readKept mw_methodLink_TinyCModel_466_TinyCModel_readKept_V (d := 18) (zR_ok (by omega) (by decide)) hl.1 rfl (Nat.le_of_ble_eq_true rfl) (tX12_readKept  hc) dX12_compile_85 (fun H locs J => ?_)
    refine lv_iload_n hx hb dX12_compile_88 rfl (lv_at hl 0 rfl) ?_
    exact zr_iret X J hf dX12_compile_89
set_option maxHeartbeats 4000000 in
theorem bX12_compile_10 {o : Int32 × zSt} (X : zX p s m args meth c D cy shR ad ts cX12_compile 2 (some .int) RX12)  : ∀ (n : Nat) (x1_ : Int32) (σ : zSt) (H : Heap) (locs : List Loc) (ls : Array Slot), zJ D cy shR ad lnR s σ H locs → lv_has ls 2 [(0, .ref (ad 0)), (1, .int x1_)] → fX12_compile_b10 N  n x1_ σ = some o → W p l e (zRm (19)) s m args below meth c H locs 0 0 (zQi D cy shR ad ts lnR below args s o) (F0 m 10 ls []) := by
  have hx := X.1
  have hb := X.2.1
  intro n
  induction n with
  | zero =>
    intro x1_ σ H locs ls J hl hf
    rw [fX12_compile_b10] at hf
    cases hf
  | succ n ih =>
    intro x1_ σ H locs ls J hl hf
    rw [fX12_compile_b10] at hf
    refine lv_iload_n hx hb dX12_compile_10 rfl (lv_at hl 1 rfl) ?_
    refine lv_aload_n hx hb dX12_compile_11 rfl (lv_at hl 0 rfl) ?_
    refine gf_X12_193 X J dX12_compile_12 ?_
    refine lv_icmp_ge hx hb dX12_compile_15 rfl (fun h => ?_) (fun h => ?_)
    · have hf := itp h hf
      refine lv_aload_n hx hb dX12_compile_36 rfl (lv_at hl 0 rfl) ?_
      obtain ⟨r3, σ4, hc, hf⟩ := obd_some hf
      refine zr_callv (As := []) (rest := []) X J 0 ho_R_X12.1 ho_R_X12.2.1 ho_R_X12.2.2 yy_X12_read mw_methodLink_TinyCModel_460_TinyCModel_read_V (d := 17) (zR_ok (by omega) (by decide)) hl.1 rfl (Nat.le_of_ble_eq_true rfl) (tX12_read  hc) dX12_compile_37 (fun H locs J => ?_)
      refine lv_aload_n hx hb dX12_compile_40 rfl (lv_at hl 0 rfl) ?_
      obtain ⟨r5, σ6, hc, hf⟩ := obd_some hf
      refine zr_calli (As := []) (rest := []) X J 0 ho_R_X12.1 ho_R_X12.2.1 ho_R_X12.2.2 yy_X12_isWell mw_methodLink_TinyCModel_243_TinyCModel_isWell_Z (d := 0) (zR_ok (by omega) (by decide)) hl.1 rfl (Nat.le_of_ble_eq_true rfl) (tX12_isWell  hc) dX12_compile_41 (fun H locs J => ?_)
      refine lv_if_eq hx hb dX12_compile_44 rfl (fun h => ?_) (fun h => ?_)
      · have hf := itp h hf
        exact bX12_compile_72 X   J (lv_sub hl [0] rfl) hf
      · have hf := itn h hf
        refine lv_aload_n hx hb dX12_compile_47 rfl (lv_at hl 0 rfl) ?_
        obtain ⟨r23, σ24, hc, hf⟩ := obd_some hf
        refine zr_callv (As := []) (rest := []) X J 0 ho_R_X12.1 ho_R_X12.2.1 ho_R_X12.2.2 yy_X12_make mw_methodLink_TinyCModel_463_TinyCModel_make_V (d := 4) (zR_ok (by omega) (by decide)) hl.1 rfl (Nat.le_of_ble_eq_true rfl) (tX12_make  hc) dX12_compile_48 (fun H locs J => ?_)
        refine lv_aload_n hx hb dX12_compile_51 rfl (lv_at hl 0 rfl) ?_
        refine gf_X12_421 X J dX12_compile_52 ?_
        refine lv_aload_n hx hb dX12_compile_55 rfl (lv_at hl 0 rfl) ?_
        refine gf_X12_167 X J dX12_compile_56 ?_
        refine lv_icmp_le hx hb dX12_compile_59 rfl (fun h => ?_) (fun h => ?_)
        · have hf := itp h hf
          exact bX12_compile_72 X   J (lv_sub hl [0] rfl) hf
        · have hf := itn h hf
          refine lv_aload_n hx hb dX12_compile_62 rfl (lv_at hl 0 rfl) ?_
          refine lv_bipush (v := (10 : Int32)) hx hb dX12_compile_63 (by decide) ?_
          refine lv_aload_n hx hb dX12_compile_65 rfl (lv_at hl 0 rfl) ?_
          refine gf_X12_193 X J dX12_compile_66 ?_
          obtain ⟨r25, σ26, hc, hf⟩ := obd_some hf
          refine zr_callv (As := [.int (10 : Int32), .int (zI σ24 0 16)]) (rest := []) X J 0 ho_R_X12.1 ho_R_X12.2.1 ho_R_X12.2.2 yy_X12_fails mw_methodLink_TinyCModel_239_TinyCModel_fails_IIV (d := 0) (zR_ok (by omega) (by decide)) hl.1 rfl (Nat.le_of_ble_eq_true rfl) (tX12_fails  hc) dX12_compile_69 (fun H locs J => ?_)
          exact bX12_compile_72 X   J (lv_sub hl [0] rfl) hf
    · have hf := itn h hf
      refine lv_aload_n hx hb dX12_compile_18 rfl (lv_at hl 0 rfl) ?_
      refine gf_X12_25 X J dX12_compile_19 ?_
      refine lv_iload_n hx hb dX12_compile_22 rfl (lv_at hl 1 rfl) ?_
      refine lv_aload_n hx hb dX12_compile_23 rfl (lv_at hl 0 rfl) ?_
      refine gf_X12_7 X J dX12_compile_24 ?_
      refine lv_iload_n hx hb dX12_compile_27 rfl (lv_at hl 1 rfl) ?_
      obtain ⟨hin, hf⟩ := itx hf
      refine al_X12_X12f0 X J hin dX12_compile_28 ?_
      obtain ⟨hin, hf⟩ := itx hf
      refine as_X12_X12f15 X J hin dX12_compile_29 (fun σ27 H locs eq J => ?_)
      have hf := bnd_eq eq hf
      clear eq
      obtain ⟨x28, eq⟩ : ∃ z, z = x1_ + (1 : Int32) := ⟨_, rfl⟩
      have hf := bnd_eq eq hf
      refine lv_iinc hx hb dX12_compile_30 hl (k := 1) rfl (v := x28) (by rw [eq]; rfl) (by decide) rfl (fun ls hl => ?_)
      clear eq
      have hl : lv_has ls 2 [(1, .int x28), (0, .ref (ad 0))] := hl
      refine lv_goto hx hb dX12_compile_33 rfl ?_
      exact ih _ _ _ _ _ J (lv_sub hl [1, 0] rfl) hf
set_option maxHeartbeats 4000000 in
theorem tX12_compile   {σ u : zSt} {r : Int32} (hf : fX12_compile N  σ = some (r, u)) : zMi l yX12_compile cX12_compile 2 (some .int) (19) D cy shR ad ts lnR [.ref (ad 0)] σ r u := by
  refine zM_of (by decide) (Nat.le_of_ble_eq_true rfl) (fun p e s m args below meth c ls ha X J hl => ?_)
  have hx := X.1
  have hb := X.2.1
  have hl : lv_has ls 2 [(0, .ref (ad 0))] := hl
  generalize s.heap = H at J ⊢
  generalize ([] : List Loc) = locs at J ⊢
  show W p l e (zRm (19)) s m args below meth c H locs 0 0 (zQi D cy shR ad ts lnR below args s (r, u)) (F0 m 0 ls [])
  unfold fX12_compile at hf
  refine lv_aload_n hx hb dX12_compile_0 rfl (lv_at hl 0 rfl) ?_
  refine lv_aload_n hx hb dX12_compile_1 rfl (lv_at hl 0 rfl) ?_
  refine gf_X12_176 X J dX12_compile_2 ?_
  refine pf_X12_193 X J dX12_compile_5 (fun σ1 H locs eq J => ?_)
  have hf := bnd_eq eq hf
  clear eq
  refine lv_iconst (v := (0 : Int32)) hx hb dX12_compile_8 (by decide) ?_
  refine lv_topi (fun x2 eq => ?_)
  have hf := bnd_eq eq hf
  clear eq
  refine lv_istore_n hx hb dX12_compile_9 rfl hl (by decide) rfl (fun ls hl => ?_)
  have hl : lv_has ls 2 [(1, .int x2), (0, .ref (ad 0))] := hl
  exact bX12_compile_10 X  N _ _ _ _ _ J (lv_sub hl [1, 0] rfl) hf
set_option maxHeartbeats 4000000 in
theorem tX12_input {a1_ : Int32}  {σ u : zSt} {r : Int32} (hf : fX12_input N a1_ σ = some (r, u)) : zMi l yX12_input cX12_input 2 (some .int) (0) D cy shR ad ts lnR [.ref (ad 0), .int a1_] σ r u := by
  refine zM_of (by decide) (Nat.le_of_ble_eq_true rfl) (fun p e s m args below meth c ls ha X J hl => ?_)
  have hx := X.1
  have hb := X.2.1
  have hl : lv_has ls 2 [(0, .ref (ad 0)), (1, .int a1_)] := hl
  generalize s.heap = H at J ⊢
  generalize ([] : List Loc) = locs at J ⊢
  show W p l e (zRm (0)) s m args below meth c H locs 0 0 (zQi D cy shR ad ts lnR below args s (r, u)) (F0 m 0 ls [])
  unfold fX12_input at hf
  refine lv_aload_n hx hb dX12_input_0 rfl (lv_at hl 0 rfl) ?_
  refine gf_X12_482 X J dX12_input_1 ?_
  refine lv_aload_n hx hb dX12_input_4 rfl (lv_at hl 0 rfl) ?_
  refine gf_X12_173 X J dX12_input_5 ?_
  refine lv_icmp_ne hx hb dX12_input_8 rfl (fun h => ?_) (fun h => ?_)
  · have hf := itn h hf
    refine lv_aload_n hx hb dX12_input_13 rfl (lv_at hl 0 rfl) ?_
    refine gf_X12_19 X J dX12_input_14 ?_
    refine lv_aload_n hx hb dX12_input_17 rfl (lv_at hl 0 rfl) ?_
    refine gf_X12_482 X J dX12_input_18 ?_
    refine lv_iload_n hx hb dX12_input_21 rfl (lv_at hl 1 rfl) ?_
    obtain ⟨hin, hf⟩ := itx hf
    refine as_X12_X12f9 X J hin dX12_input_22 (fun σ1 H locs eq J => ?_)
    have hf := bnd_eq eq hf
    clear eq
    refine lv_aload_n hx hb dX12_input_23 rfl (lv_at hl 0 rfl) ?_
    refine lv_dup hx hb dX12_input_24 rfl ?_
    refine gf_X12_482 X J dX12_input_25 ?_
    refine lv_iconst (v := (1 : Int32)) hx hb dX12_input_28 (by decide) ?_
    refine lv_iadd hx hb dX12_input_29 ?_
    refine pf_X12_482 X J dX12_input_30 (fun σ2 H locs eq J => ?_)
    have hf := bnd_eq eq hf
    clear eq
    refine lv_iconst (v := (0 : Int32)) hx hb dX12_input_33 (by decide) ?_
    exact zr_iret X J hf dX12_input_34
  · have hf := itp h hf
    refine lv_iconst (v := (1 : Int32)) hx hb dX12_input_11 (by decide) ?_
    exact zr_iret X J hf dX12_input_12
set_option maxHeartbeats 4000000 in
theorem tX12_unary {a0_ : Int32} {a1_ : Int32}  {σ u : zSt} {r : Int32} (hf : fX12_unary N a0_ a1_ σ = some (r, u)) : zMi l yX12_unary cX12_unary 2 (some .int) (0) D cy shR ad ts lnR [.int a0_, .int a1_] σ r u := by
  refine zM_of (by decide) (Nat.le_of_ble_eq_true rfl) (fun p e s m args below meth c ls ha X J hl => ?_)
  have hx := X.1
  have hb := X.2.1
  have hl : lv_has ls 2 [(0, .int a0_), (1, .int a1_)] := hl
  generalize s.heap = H at J ⊢
  generalize ([] : List Loc) = locs at J ⊢
  show W p l e (zRm (0)) s m args below meth c H locs 0 0 (zQi D cy shR ad ts lnR below args s (r, u)) (F0 m 0 ls [])
  unfold fX12_unary at hf
  refine lv_iload_n hx hb dX12_unary_0 rfl (lv_at hl 0 rfl) ?_
  refine lv_bipush (v := (24 : Int32)) hx hb dX12_unary_1 (by decide) ?_
  refine lv_icmp_ne hx hb dX12_unary_3 rfl (fun h => ?_) (fun h => ?_)
  · have hf := itn h hf
    refine lv_iload_n hx hb dX12_unary_11 rfl (lv_at hl 0 rfl) ?_
    refine lv_bipush (v := (25 : Int32)) hx hb dX12_unary_12 (by decide) ?_
    refine lv_icmp_ne hx hb dX12_unary_14 rfl (fun h => ?_) (fun h => ?_)
    · have hf := itn h hf
      refine lv_iload_n hx hb dX12_unary_29 rfl (lv_at hl 1 rfl) ?_
      refine lv_iconst (v := (-1 : Int32)) hx hb dX12_unary_30 (by decide) ?_
      refine lv_ixor hx hb dX12_unary_31 ?_
      exact zr_iret X J hf dX12_unary_32
    · have hf := itp h hf
      refine lv_iload_n hx hb dX12_unary_17 rfl (lv_at hl 1 rfl) ?_
      refine lv_if_ne hx hb dX12_unary_18 rfl (fun h => ?_) (fun h => ?_)
      · have hf := itn h hf
        refine lv_iconst (v := (0 : Int32)) hx hb dX12_unary_25 (by decide) ?_
        refine lv_goto hx hb dX12_unary_26 rfl ?_
        exact zr_iret X J hf dX12_unary_32
      · have hf := itp h hf
        refine lv_iconst (v := (1 : Int32)) hx hb dX12_unary_21 (by decide) ?_
        refine lv_goto hx hb dX12_unary_22 rfl ?_
        exact zr_iret X J hf dX12_unary_32
  · have hf := itp h hf
    refine lv_iload_n hx hb dX12_unary_6 rfl (lv_at hl 1 rfl) ?_
    refine lv_ineg hx hb dX12_unary_7 ?_
    refine lv_goto hx hb dX12_unary_8 rfl ?_
    exact zr_iret X J hf dX12_unary_32
set_option maxHeartbeats 4000000 in
theorem tX12_top   {σ u : zSt} {r : Int32} (hf : fX12_top N  σ = some (r, u)) : zMi l yX12_top cX12_top 1 (some .int) (0) D cy shR ad ts lnR [.ref (ad 0)] σ r u := by
  refine zM_of (by decide) (Nat.le_of_ble_eq_true rfl) (fun p e s m args below meth c ls ha X J hl => ?_)
  have hx := X.1
  have hb := X.2.1
  have hl : lv_has ls 1 [(0, .ref (ad 0))] := hl
  generalize s.heap = H at J ⊢
  generalize ([] : List Loc) = locs at J ⊢
  show W p l e (zRm (0)) s m args below meth c H locs 0 0 (zQi D cy shR ad ts lnR below args s (r, u)) (F0 m 0 ls [])
  unfold fX12_top at hf
  refine lv_aload_n hx hb dX12_top_0 rfl (lv_at hl 0 rfl) ?_
  refine lv_dup hx hb dX12_top_1 rfl ?_
  refine gf_X12_488 X J dX12_top_2 ?_
  refine lv_iconst (v := (1 : Int32)) hx hb dX12_top_5 (by decide) ?_
  refine lv_isub hx hb dX12_top_6 ?_
  refine pf_X12_488 X J dX12_top_7 (fun σ1 H locs eq J => ?_)
  have hf := bnd_eq eq hf
  clear eq
  refine lv_aload_n hx hb dX12_top_10 rfl (lv_at hl 0 rfl) ?_
  refine gf_X12_16 X J dX12_top_11 ?_
  refine lv_aload_n hx hb dX12_top_14 rfl (lv_at hl 0 rfl) ?_
  refine gf_X12_488 X J dX12_top_15 ?_
  obtain ⟨hin, hf⟩ := itx hf
  refine al_X12_X12f7 X J hin dX12_top_18 ?_
  exact zr_iret X J hf dX12_top_19
set_option maxHeartbeats 4000000 in
theorem tX12_binary_ {a0_ : Int32} {a1_ : Int32} {a2_ : Int32}  {σ u : zSt} {r : Int32} (hf : fX12_binary_ N a0_ a1_ a2_ σ = some (r, u)) : zMi l yX12_binary_ cX12_binary_ 3 (some .int) (0) D cy shR ad ts lnR [.int a0_, .int a1_, .int a2_] σ r u := by
  refine zM_of (by decide) (Nat.le_of_ble_eq_true rfl) (fun p e s m args below meth c ls ha X J hl => ?_)
  have hx := X.1
  have hb := X.2.1
  have hl : lv_has ls 3 [(0, .int a0_), (1, .int a1_), (2, .int a2_)] := hl
  generalize s.heap = H at J ⊢
  generalize ([] : List Loc) = locs at J ⊢
  show W p l e (zRm (0)) s m args below meth c H locs 0 0 (zQi D cy shR ad ts lnR below args s (r, u)) (F0 m 0 ls [])
  unfold fX12_binary_ at hf
  refine lv_iload_n hx hb dX12_binary__0 rfl (lv_at hl 0 rfl) ?_
  by_cases h0_ : a0_ = (10 : Int32)
  · have hf := itp h0_ hf
    rw [h0_]
    refine lv_tableIn hx hb dX12_binary__1 (by decide) (by decide) (tgt := 88) (by rfl) (by decide) ?_
    refine lv_iload_n hx hb dX12_binary__88 rfl (lv_at hl 1 rfl) ?_
    refine lv_iload_n hx hb dX12_binary__89 rfl (lv_at hl 2 rfl) ?_
    refine lv_ior hx hb dX12_binary__90 ?_
    exact zr_iret X J hf dX12_binary__91
  have hf := itn h0_ hf
  by_cases h1_ : a0_ = (11 : Int32)
  · have hf := itp h1_ hf
    rw [h1_]
    refine lv_tableIn hx hb dX12_binary__1 (by decide) (by decide) (tgt := 92) (by rfl) (by decide) ?_
    refine lv_iload_n hx hb dX12_binary__92 rfl (lv_at hl 1 rfl) ?_
    refine lv_iload_n hx hb dX12_binary__93 rfl (lv_at hl 2 rfl) ?_
    refine lv_ixor hx hb dX12_binary__94 ?_
    exact zr_iret X J hf dX12_binary__95
  have hf := itn h1_ hf
  by_cases h2_ : a0_ = (12 : Int32)
  · have hf := itp h2_ hf
    rw [h2_]
    refine lv_tableIn hx hb dX12_binary__1 (by decide) (by decide) (tgt := 96) (by rfl) (by decide) ?_
    refine lv_iload_n hx hb dX12_binary__96 rfl (lv_at hl 1 rfl) ?_
    refine lv_iload_n hx hb dX12_binary__97 rfl (lv_at hl 2 rfl) ?_
    refine lv_iand hx hb dX12_binary__98 ?_
    exact zr_iret X J hf dX12_binary__99
  have hf := itn h2_ hf
  by_cases h3_ : a0_ = (13 : Int32)
  · have hf := itp h3_ hf
    rw [h3_]
    refine lv_tableIn hx hb dX12_binary__1 (by decide) (by decide) (tgt := 100) (by rfl) (by decide) ?_
    refine lv_iload_n hx hb dX12_binary__100 rfl (lv_at hl 1 rfl) ?_
    refine lv_iload_n hx hb dX12_binary__101 rfl (lv_at hl 2 rfl) ?_
    refine lv_icmp_ne hx hb dX12_binary__102 rfl (fun h => ?_) (fun h => ?_)
    · have hf := itn h hf
      refine lv_iconst (v := (0 : Int32)) hx hb dX12_binary__109 (by decide) ?_
      exact zr_iret X J hf dX12_binary__110
    · have hf := itp h hf
      refine lv_iconst (v := (1 : Int32)) hx hb dX12_binary__105 (by decide) ?_
      refine lv_goto hx hb dX12_binary__106 rfl ?_
      exact zr_iret X J hf dX12_binary__110
  have hf := itn h3_ hf
  by_cases h4_ : a0_ = (14 : Int32)
  · have hf := itp h4_ hf
    rw [h4_]
    refine lv_tableIn hx hb dX12_binary__1 (by decide) (by decide) (tgt := 111) (by rfl) (by decide) ?_
    refine lv_iload_n hx hb dX12_binary__111 rfl (lv_at hl 1 rfl) ?_
    refine lv_iload_n hx hb dX12_binary__112 rfl (lv_at hl 2 rfl) ?_
    refine lv_icmp_eq hx hb dX12_binary__113 rfl (fun h => ?_) (fun h => ?_)
    · have hf := itp h hf
      refine lv_iconst (v := (0 : Int32)) hx hb dX12_binary__120 (by decide) ?_
      exact zr_iret X J hf dX12_binary__121
    · have hf := itn h hf
      refine lv_iconst (v := (1 : Int32)) hx hb dX12_binary__116 (by decide) ?_
      refine lv_goto hx hb dX12_binary__117 rfl ?_
      exact zr_iret X J hf dX12_binary__121
  have hf := itn h4_ hf
  by_cases h5_ : a0_ = (15 : Int32)
  · have hf := itp h5_ hf
    rw [h5_]
    refine lv_tableIn hx hb dX12_binary__1 (by decide) (by decide) (tgt := 122) (by rfl) (by decide) ?_
    refine lv_iload_n hx hb dX12_binary__122 rfl (lv_at hl 1 rfl) ?_
    refine lv_iload_n hx hb dX12_binary__123 rfl (lv_at hl 2 rfl) ?_
    refine lv_icmp_ge hx hb dX12_binary__124 rfl (fun h => ?_) (fun h => ?_)
    · have hf := itp h hf
      refine lv_iconst (v := (0 : Int32)) hx hb dX12_binary__131 (by decide) ?_
      exact zr_iret X J hf dX12_binary__132
    · have hf := itn h hf
      refine lv_iconst (v := (1 : Int32)) hx hb dX12_binary__127 (by decide) ?_
      refine lv_goto hx hb dX12_binary__128 rfl ?_
      exact zr_iret X J hf dX12_binary__132
  have hf := itn h5_ hf
  by_cases h6_ : a0_ = (16 : Int32)
  · have hf := itp h6_ hf
    rw [h6_]
    refine lv_tableIn hx hb dX12_binary__1 (by decide) (by decide) (tgt := 133) (by rfl) (by decide) ?_
    refine lv_iload_n hx hb dX12_binary__133 rfl (lv_at hl 1 rfl) ?_
    refine lv_iload_n hx hb dX12_binary__134 rfl (lv_at hl 2 rfl) ?_
    refine lv_icmp_gt hx hb dX12_binary__135 rfl (fun h => ?_) (fun h => ?_)
    · have hf := itp h hf
      refine lv_iconst (v := (0 : Int32)) hx hb dX12_binary__142 (by decide) ?_
      exact zr_iret X J hf dX12_binary__143
    · have hf := itn h hf
      refine lv_iconst (v := (1 : Int32)) hx hb dX12_binary__138 (by decide) ?_
      refine lv_goto hx hb dX12_binary__139 rfl ?_
      exact zr_iret X J hf dX12_binary__143
  have hf := itn h6_ hf
  by_cases h7_ : a0_ = (17 : Int32)
  · have hf := itp h7_ hf
    rw [h7_]
    refine lv_tableIn hx hb dX12_binary__1 (by decide) (by decide) (tgt := 144) (by rfl) (by decide) ?_
    refine lv_iload_n hx hb dX12_binary__144 rfl (lv_at hl 1 rfl) ?_
    refine lv_iload_n hx hb dX12_binary__145 rfl (lv_at hl 2 rfl) ?_
    refine lv_icmp_le hx hb dX12_binary__146 rfl (fun h => ?_) (fun h => ?_)
    · have hf := itp h hf
      refine lv_iconst (v := (0 : Int32)) hx hb dX12_binary__153 (by decide) ?_
      exact zr_iret X J hf dX12_binary__154
    · have hf := itn h hf
      refine lv_iconst (v := (1 : Int32)) hx hb dX12_binary__149 (by decide) ?_
      refine lv_goto hx hb dX12_binary__150 rfl ?_
      exact zr_iret X J hf dX12_binary__154
  have hf := itn h7_ hf
  by_cases h8_ : a0_ = (18 : Int32)
  · have hf := itp h8_ hf
    rw [h8_]
    refine lv_tableIn hx hb dX12_binary__1 (by decide) (by decide) (tgt := 155) (by rfl) (by decide) ?_
    refine lv_iload_n hx hb dX12_binary__155 rfl (lv_at hl 1 rfl) ?_
    refine lv_iload_n hx hb dX12_binary__156 rfl (lv_at hl 2 rfl) ?_
    refine lv_icmp_lt hx hb dX12_binary__157 rfl (fun h => ?_) (fun h => ?_)
    · have hf := itp h hf
      refine lv_iconst (v := (0 : Int32)) hx hb dX12_binary__164 (by decide) ?_
      exact zr_iret X J hf dX12_binary__165
    · have hf := itn h hf
      refine lv_iconst (v := (1 : Int32)) hx hb dX12_binary__160 (by decide) ?_
      refine lv_goto hx hb dX12_binary__161 rfl ?_
      exact zr_iret X J hf dX12_binary__165
  have hf := itn h8_ hf
  by_cases h9_ : a0_ = (19 : Int32)
  · have hf := itp h9_ hf
    rw [h9_]
    refine lv_tableIn hx hb dX12_binary__1 (by decide) (by decide) (tgt := 166) (by rfl) (by decide) ?_
    refine lv_iload_n hx hb dX12_binary__166 rfl (lv_at hl 1 rfl) ?_
    refine lv_iload_n hx hb dX12_binary__167 rfl (lv_at hl 2 rfl) ?_
    refine lv_ishl hx hb dX12_binary__168 ?_
    exact zr_iret X J hf dX12_binary__169
  have hf := itn h9_ hf
  by_cases h10_ : a0_ = (20 : Int32)
  · have hf := itp h10_ hf
    rw [h10_]
    refine lv_tableIn hx hb dX12_binary__1 (by decide) (by decide) (tgt := 170) (by rfl) (by decide) ?_
    refine lv_iload_n hx hb dX12_binary__170 rfl (lv_at hl 1 rfl) ?_
    refine lv_iload_n hx hb dX12_binary__171 rfl (lv_at hl 2 rfl) ?_
    refine lv_ishr hx hb dX12_binary__172 ?_
    exact zr_iret X J hf dX12_binary__173
  have hf := itn h10_ hf
  by_cases h11_ : a0_ = (21 : Int32)
  · have hf := itp h11_ hf
    rw [h11_]
    refine lv_tableIn hx hb dX12_binary__1 (by decide) (by decide) (tgt := 174) (by rfl) (by decide) ?_
    refine lv_iload_n hx hb dX12_binary__174 rfl (lv_at hl 1 rfl) ?_
    refine lv_iload_n hx hb dX12_binary__175 rfl (lv_at hl 2 rfl) ?_
    refine lv_iadd hx hb dX12_binary__176 ?_
    exact zr_iret X J hf dX12_binary__177
  have hf := itn h11_ hf
  by_cases h12_ : a0_ = (22 : Int32)
  · have hf := itp h12_ hf
    rw [h12_]
    refine lv_tableIn hx hb dX12_binary__1 (by decide) (by decide) (tgt := 178) (by rfl) (by decide) ?_
    refine lv_iload_n hx hb dX12_binary__178 rfl (lv_at hl 1 rfl) ?_
    refine lv_iload_n hx hb dX12_binary__179 rfl (lv_at hl 2 rfl) ?_
    refine lv_isub hx hb dX12_binary__180 ?_
    exact zr_iret X J hf dX12_binary__181
  have hf := itn h12_ hf
  by_cases h13_ : a0_ = (23 : Int32)
  · have hf := itp h13_ hf
    rw [h13_]
    refine lv_tableIn hx hb dX12_binary__1 (by decide) (by decide) (tgt := 182) (by rfl) (by decide) ?_
    refine lv_iload_n hx hb dX12_binary__182 rfl (lv_at hl 1 rfl) ?_
    refine lv_iload_n hx hb dX12_binary__183 rfl (lv_at hl 2 rfl) ?_
    refine lv_imul hx hb dX12_binary__184 ?_
    exact zr_iret X J hf dX12_binary__185
  have hf := itn h13_ hf
  by_cases h14_ : a0_ = (24 : Int32)
  · have hf := itp h14_ hf
    rw [h14_]
    refine lv_tableIn hx hb dX12_binary__1 (by decide) (by decide) (tgt := 190) (by rfl) (by decide) ?_
    refine lv_iload_n hx hb dX12_binary__190 rfl (lv_at hl 1 rfl) ?_
    refine lv_iload_n hx hb dX12_binary__191 rfl (lv_at hl 2 rfl) ?_
    obtain ⟨h0, hf⟩ := itx hf
    refine lv_irem hx hb dX12_binary__192 h0 ?_
    exact zr_iret X J hf dX12_binary__193
  have hf := itn h14_ hf
  by_cases h15_ : a0_ = (25 : Int32)
  · have hf := itp h15_ hf
    rw [h15_]
    refine lv_tableIn hx hb dX12_binary__1 (by decide) (by decide) (tgt := 190) (by rfl) (by decide) ?_
    refine lv_iload_n hx hb dX12_binary__190 rfl (lv_at hl 1 rfl) ?_
    refine lv_iload_n hx hb dX12_binary__191 rfl (lv_at hl 2 rfl) ?_
    obtain ⟨h0, hf⟩ := itx hf
    refine lv_irem hx hb dX12_binary__192 h0 ?_
    exact zr_iret X J hf dX12_binary__193
  have hf := itn h15_ hf
  by_cases h16_ : a0_ = (26 : Int32)
  · have hf := itp h16_ hf
    rw [h16_]
    refine lv_tableIn hx hb dX12_binary__1 (by decide) (by decide) (tgt := 190) (by rfl) (by decide) ?_
    refine lv_iload_n hx hb dX12_binary__190 rfl (lv_at hl 1 rfl) ?_
    refine lv_iload_n hx hb dX12_binary__191 rfl (lv_at hl 2 rfl) ?_
    obtain ⟨h0, hf⟩ := itx hf
    refine lv_irem hx hb dX12_binary__192 h0 ?_
    exact zr_iret X J hf dX12_binary__193
  have hf := itn h16_ hf
  by_cases h17_ : a0_ = (27 : Int32)
  · have hf := itp h17_ hf
    rw [h17_]
    refine lv_tableIn hx hb dX12_binary__1 (by decide) (by decide) (tgt := 186) (by rfl) (by decide) ?_
    refine lv_iload_n hx hb dX12_binary__186 rfl (lv_at hl 1 rfl) ?_
    refine lv_iload_n hx hb dX12_binary__187 rfl (lv_at hl 2 rfl) ?_
    obtain ⟨h0, hf⟩ := itx hf
    refine lv_idiv hx hb dX12_binary__188 h0 ?_
    exact zr_iret X J hf dX12_binary__189
  have hf := itn h17_ hf
  refine lv_tableOut hx hb dX12_binary__1 (tgt := 190) (by have := lv_neT h0_ (a := 10) (by decide); have := lv_neT h1_ (a := 11) (by decide); have := lv_neT h2_ (a := 12) (by decide); have := lv_neT h3_ (a := 13) (by decide); have := lv_neT h4_ (a := 14) (by decide); have := lv_neT h5_ (a := 15) (by decide); have := lv_neT h6_ (a := 16) (by decide); have := lv_neT h7_ (a := 17) (by decide); have := lv_neT h8_ (a := 18) (by decide); have := lv_neT h9_ (a := 19) (by decide); have := lv_neT h10_ (a := 20) (by decide); have := lv_neT h11_ (a := 21) (by decide); have := lv_neT h12_ (a := 22) (by decide); have := lv_neT h13_ (a := 23) (by decide); have := lv_neT h14_ (a := 24) (by decide); have := lv_neT h15_ (a := 25) (by decide); have := lv_neT h16_ (a := 26) (by decide); have := lv_neT h17_ (a := 27) (by decide); omega) (by decide) ?_
  refine lv_iload_n hx hb dX12_binary__190 rfl (lv_at hl 1 rfl) ?_
  refine lv_iload_n hx hb dX12_binary__191 rfl (lv_at hl 2 rfl) ?_
  obtain ⟨h0, hf⟩ := itx hf
  refine lv_irem hx hb dX12_binary__192 h0 ?_
  exact zr_iret X J hf dX12_binary__193
set_option maxHeartbeats 4000000 in
theorem bX12_reckons_65 {o : Unit × zSt} (X : zX p s m args meth c D cy shR ad ts cX12_reckons 4 none RX12)  {x1_ : Int32} {x2_ : Int32} {x3_ : Int32}  {σ : zSt} {H : Heap} {locs : List Loc} {ls : Array Slot} (J : zJ D cy shR ad lnR s σ H locs) (hl : lv_has ls 4 [(0, .ref (ad 0)), (1, .int x1_), (2, .int x2_), (3, .int x3_)]) (hf : fX12_reckons_b65 N  x1_ x2_ x3_ σ = some o) : W p l e (zRm (1)) s m args below meth c H locs 0 0 (zQv D cy shR ad ts lnR below args s o) (F0 m 65 ls []) := by
  have hx := X.1
  have hb := X.2.1
  unfold fX12_reckons_b65 at hf
  refine lv_aload_n hx hb dX12_reckons_65 rfl (lv_at hl 0 rfl) ?_
  refine gf_X12_16 X J dX12_reckons_66 ?_
  refine lv_aload_n hx hb dX12_reckons_69 rfl (lv_at hl 0 rfl) ?_
  refine gf_X12_488 X J dX12_reckons_70 ?_
  refine lv_iload_n hx hb dX12_reckons_73 rfl (lv_at hl 1 rfl) ?_
  refine lv_iload_n hx hb dX12_reckons_74 rfl (lv_at hl 3 rfl) ?_
  refine lv_iload_n hx hb dX12_reckons_75 rfl (lv_at hl 2 rfl) ?_
  obtain ⟨r5, σ6, hc, hf⟩ := obd_some hf
  refine zr_callSi (As := [.int x1_, .int x3_, .int x2_]) (rest := [.int (zI σ 0 73), .ref (ad 3)]) X J yy_X12_binary_ mw_methodLink_TinyCModel_553_TinyCModel_binary_IIII (d := 0) (zR_ok (by omega) (by decide)) hl.1 rfl (Nat.le_of_ble_eq_true rfl) (tX12_binary_  hc) dX12_reckons_76 (fun H locs J => ?_)
  obtain ⟨hin, hf⟩ := itx hf
  refine as_X12_X12f7 X J hin dX12_reckons_79 (fun σ7 H locs eq J => ?_)
  have hf := bnd_eq eq hf
  clear eq
  refine lv_aload_n hx hb dX12_reckons_80 rfl (lv_at hl 0 rfl) ?_
  refine lv_dup hx hb dX12_reckons_81 rfl ?_
  refine gf_X12_488 X J dX12_reckons_82 ?_
  refine lv_iconst (v := (1 : Int32)) hx hb dX12_reckons_85 (by decide) ?_
  refine lv_iadd hx hb dX12_reckons_86 ?_
  refine pf_X12_488 X J dX12_reckons_87 (fun σ8 H locs eq J => ?_)
  have hf := bnd_eq eq hf
  clear eq
  exact zr_vret X J hf dX12_reckons_90
set_option maxHeartbeats 4000000 in
theorem bX12_reckons_39 {o : Unit × zSt} (X : zX p s m args meth c D cy shR ad ts cX12_reckons 4 none RX12)  {x1_ : Int32}  {σ : zSt} {H : Heap} {locs : List Loc} {ls : Array Slot} (J : zJ D cy shR ad lnR s σ H locs) (hl : lv_has ls 4 [(0, .ref (ad 0)), (1, .int x1_)]) (hf : fX12_reckons_b39 N  x1_ σ = some o) : W p l e (zRm (1)) s m args below meth c H locs 0 0 (zQv D cy shR ad ts lnR below args s o) (F0 m 39 ls []) := by
  have hx := X.1
  have hb := X.2.1
  unfold fX12_reckons_b39 at hf
  refine lv_aload_n hx hb dX12_reckons_39 rfl (lv_at hl 0 rfl) ?_
  obtain ⟨r1, σ2, hc, hf⟩ := obd_some hf
  refine zr_calli (As := []) (rest := []) X J 0 ho_R_X12.1 ho_R_X12.2.1 ho_R_X12.2.2 yy_X12_top mw_methodLink_TinyCModel_539_TinyCModel_top_I (d := 0) (zR_ok (by omega) (by decide)) hl.1 rfl (Nat.le_of_ble_eq_true rfl) (tX12_top  hc) dX12_reckons_40 (fun H locs J => ?_)
  refine lv_istore_n hx hb dX12_reckons_43 rfl hl (by decide) rfl (fun ls hl => ?_)
  have hl : lv_has ls 4 [(2, .int r1), (0, .ref (ad 0)), (1, .int x1_)] := hl
  refine lv_aload_n hx hb dX12_reckons_44 rfl (lv_at hl 1 rfl) ?_
  obtain ⟨r3, σ4, hc, hf⟩ := obd_some hf
  refine zr_calli (As := []) (rest := []) X J 0 ho_R_X12.1 ho_R_X12.2.1 ho_R_X12.2.2 yy_X12_top mw_methodLink_TinyCModel_539_TinyCModel_top_I (d := 0) (zR_ok (by omega) (by decide)) hl.1 rfl (Nat.le_of_ble_eq_true rfl) (tX12_top  hc) dX12_reckons_45 (fun H locs J => ?_)
  refine lv_istore_n hx hb dX12_reckons_48 rfl hl (by decide) rfl (fun ls hl => ?_)
  have hl : lv_has ls 4 [(3, .int r3), (2, .int r1), (0, .ref (ad 0)), (1, .int x1_)] := hl
  refine lv_iload_n hx hb dX12_reckons_49 rfl (lv_at hl 1 rfl) ?_
  refine lv_if_ne hx hb dX12_reckons_50 rfl (fun h => ?_) (fun h => ?_)
  · have hf := itn h hf
    exact bX12_reckons_65 X   J (lv_sub hl [2, 3, 1, 0] rfl) hf
  · have hf := itp h hf
    refine lv_iload_n hx hb dX12_reckons_53 rfl (lv_at hl 3 rfl) ?_
    refine lv_bipush (v := (27 : Int32)) hx hb dX12_reckons_54 (by decide) ?_
    refine lv_icmp_lt hx hb dX12_reckons_56 rfl (fun h => ?_) (fun h => ?_)
    · have hf := itp h hf
      exact bX12_reckons_65 X   J (lv_sub hl [2, 3, 1, 0] rfl) hf
    · have hf := itn h hf
      refine lv_aload_n hx hb dX12_reckons_59 rfl (lv_at hl 2 rfl) ?_
      refine lv_iconst (v := (2 : Int32)) hx hb dX12_reckons_60 (by decide) ?_
      refine pf_X12_494 X J dX12_reckons_61 (fun σ9 H locs eq J => ?_)
      have hf := bnd_eq eq hf
      clear eq
      exact zr_vret X J hf dX12_reckons_64
set_option maxHeartbeats 4000000 in
theorem tX12_reckons {a1_ : Int32}  {σ u : zSt} {r : Unit} (hf : fX12_reckons N a1_ σ = some (r, u)) : zMv l yX12_reckons cX12_reckons 4 none (1) D cy shR ad ts lnR [.ref (ad 0), .int a1_] σ u := by
  refine zM_of (by decide) (Nat.le_of_ble_eq_true rfl) (fun p e s m args below meth c ls ha X J hl => ?_)
  have hx := X.1
  have hb := X.2.1
  have hl : lv_has ls 4 [(0, .ref (ad 0)), (1, .int a1_)] := hl
  generalize s.heap = H at J ⊢
  generalize ([] : List Loc) = locs at J ⊢
  show W p l e (zRm (1)) s m args below meth c H locs 0 0 (zQv D cy shR ad ts lnR below args s (r, u)) (F0 m 0 ls [])
  unfold fX12_reckons at hf
  refine lv_iload_n hx hb dX12_reckons_0 rfl (lv_at hl 1 rfl) ?_
  refine lv_bipush (v := (24 : Int32)) hx hb dX12_reckons_1 (by decide) ?_
  refine lv_icmp_lt hx hb dX12_reckons_3 rfl (fun h => ?_) (fun h => ?_)
  · have hf := itp h hf
    exact bX12_reckons_39 X   J (lv_sub hl [0, 1] rfl) hf
  · have hf := itn h hf
    refine lv_iload_n hx hb dX12_reckons_6 rfl (lv_at hl 1 rfl) ?_
    refine lv_bipush (v := (26 : Int32)) hx hb dX12_reckons_7 (by decide) ?_
    refine lv_icmp_gt hx hb dX12_reckons_9 rfl (fun h => ?_) (fun h => ?_)
    · have hf := itp h hf
      exact bX12_reckons_39 X   J (lv_sub hl [0, 1] rfl) hf
    · have hf := itn h hf
      refine lv_aload_n hx hb dX12_reckons_12 rfl (lv_at hl 0 rfl) ?_
      refine gf_X12_16 X J dX12_reckons_13 ?_
      refine lv_aload_n hx hb dX12_reckons_16 rfl (lv_at hl 0 rfl) ?_
      refine gf_X12_488 X J dX12_reckons_17 ?_
      refine lv_iconst (v := (1 : Int32)) hx hb dX12_reckons_20 (by decide) ?_
      refine lv_isub hx hb dX12_reckons_21 ?_
      refine lv_iload_n hx hb dX12_reckons_22 rfl (lv_at hl 1 rfl) ?_
      refine lv_aload_n hx hb dX12_reckons_23 rfl (lv_at hl 0 rfl) ?_
      refine gf_X12_16 X J dX12_reckons_24 ?_
      refine lv_aload_n hx hb dX12_reckons_27 rfl (lv_at hl 0 rfl) ?_
      refine gf_X12_488 X J dX12_reckons_28 ?_
      refine lv_iconst (v := (1 : Int32)) hx hb dX12_reckons_31 (by decide) ?_
      refine lv_isub hx hb dX12_reckons_32 ?_
      obtain ⟨hin, hf⟩ := itx hf
      refine al_X12_X12f7 X J hin dX12_reckons_33 ?_
      obtain ⟨r10, σ11, hc, hf⟩ := obd_some hf
      refine zr_callSi (As := [.int a1_, .int (zA σ 3 ((zI σ 0 73) - (1 : Int32)).toNatClampNeg)]) (rest := [.int ((zI σ 0 73) - (1 : Int32)), .ref (ad 3)]) X J yy_X12_unary mw_methodLink_TinyCModel_550_TinyCModel_unary_III (d := 0) (zR_ok (by omega) (by decide)) hl.1 rfl (Nat.le_of_ble_eq_true rfl) (tX12_unary  hc) dX12_reckons_34 (fun H locs J => ?_)
      obtain ⟨hin, hf⟩ := itx hf
      refine as_X12_X12f7 X J hin dX12_reckons_37 (fun σ12 H locs eq J => ?_)
      have hf := bnd_eq eq hf
      clear eq
      exact zr_vret X J hf dX12_reckons_38
set_option maxHeartbeats 4000000 in
theorem tX12_comesOut {a1_ : Int32}  {σ u : zSt} {r : Unit} (hf : fX12_comesOut N a1_ σ = some (r, u)) : zMv l yX12_comesOut cX12_comesOut 2 none (0) D cy shR ad ts lnR [.ref (ad 0), .int a1_] σ u := by
  refine zM_of (by decide) (Nat.le_of_ble_eq_true rfl) (fun p e s m args below meth c ls ha X J hl => ?_)
  have hx := X.1
  have hb := X.2.1
  have hl : lv_has ls 2 [(0, .ref (ad 0)), (1, .int a1_)] := hl
  generalize s.heap = H at J ⊢
  generalize ([] : List Loc) = locs at J ⊢
  show W p l e (zRm (0)) s m args below meth c H locs 0 0 (zQv D cy shR ad ts lnR below args s (r, u)) (F0 m 0 ls [])
  unfold fX12_comesOut at hf
  refine lv_aload_n hx hb dX12_comesOut_0 rfl (lv_at hl 0 rfl) ?_
  refine gf_X12_500 X J dX12_comesOut_1 ?_
  refine lv_aload_n hx hb dX12_comesOut_4 rfl (lv_at hl 0 rfl) ?_
  refine gf_X12_173 X J dX12_comesOut_5 ?_
  refine lv_icmp_ne hx hb dX12_comesOut_8 rfl (fun h => ?_) (fun h => ?_)
  · have hf := itn h hf
    refine lv_aload_n hx hb dX12_comesOut_18 rfl (lv_at hl 0 rfl) ?_
    refine gf_X12_22 X J dX12_comesOut_19 ?_
    refine lv_aload_n hx hb dX12_comesOut_22 rfl (lv_at hl 0 rfl) ?_
    refine gf_X12_500 X J dX12_comesOut_23 ?_
    refine lv_iload_n hx hb dX12_comesOut_26 rfl (lv_at hl 1 rfl) ?_
    obtain ⟨hin, hf⟩ := itx hf
    refine as_X12_X12f13 X J hin dX12_comesOut_27 (fun σ1 H locs eq J => ?_)
    have hf := bnd_eq eq hf
    clear eq
    refine lv_aload_n hx hb dX12_comesOut_28 rfl (lv_at hl 0 rfl) ?_
    refine lv_dup hx hb dX12_comesOut_29 rfl ?_
    refine gf_X12_500 X J dX12_comesOut_30 ?_
    refine lv_iconst (v := (1 : Int32)) hx hb dX12_comesOut_33 (by decide) ?_
    refine lv_iadd hx hb dX12_comesOut_34 ?_
    refine pf_X12_500 X J dX12_comesOut_35 (fun σ2 H locs eq J => ?_)
    have hf := bnd_eq eq hf
    clear eq
    exact zr_vret X J hf dX12_comesOut_38
  · have hf := itp h hf
    refine lv_aload_n hx hb dX12_comesOut_11 rfl (lv_at hl 0 rfl) ?_
    refine lv_bipush (v := (6 : Int32)) hx hb dX12_comesOut_12 (by decide) ?_
    refine pf_X12_494 X J dX12_comesOut_14 (fun σ3 H locs eq J => ?_)
    have hf := bnd_eq eq hf
    clear eq
    exact zr_vret X J hf dX12_comesOut_17
set_option maxHeartbeats 4000000 in
theorem bX12_ends_31 {o : Unit × zSt} (X : zX p s m args meth c D cy shR ad ts cX12_ends 1 none RX12)  {s0_ : Int32}  {σ : zSt} {H : Heap} {locs : List Loc} {ls : Array Slot} (J : zJ D cy shR ad lnR s σ H locs) (hl : lv_has ls 1 []) (hf : fX12_ends_b31 N  s0_ σ = some o) : W p l e (zRm (1)) s m args below meth c H locs 0 0 (zQv D cy shR ad ts lnR below args s o) (F0 m 31 ls [.int s0_, .ref (ad 0)]) := by
  have hx := X.1
  have hb := X.2.1
  unfold fX12_ends_b31 at hf
  refine pf_X12_494 X J dX12_ends_31 (fun σ3 H locs eq J => ?_)
  have hf := bnd_eq eq hf
  clear eq
  exact zr_vret X J hf dX12_ends_34
set_option maxHeartbeats 4000000 in
theorem tX12_ends   {σ u : zSt} {r : Unit} (hf : fX12_ends N  σ = some (r, u)) : zMv l yX12_ends cX12_ends 1 none (1) D cy shR ad ts lnR [.ref (ad 0)] σ u := by
  refine zM_of (by decide) (Nat.le_of_ble_eq_true rfl) (fun p e s m args below meth c ls ha X J hl => ?_)
  have hx := X.1
  have hb := X.2.1
  have hl : lv_has ls 1 [(0, .ref (ad 0))] := hl
  generalize s.heap = H at J ⊢
  generalize ([] : List Loc) = locs at J ⊢
  show W p l e (zRm (1)) s m args below meth c H locs 0 0 (zQv D cy shR ad ts lnR below args s (r, u)) (F0 m 0 ls [])
  unfold fX12_ends at hf
  refine lv_aload_n hx hb dX12_ends_0 rfl (lv_at hl 0 rfl) ?_
  refine lv_aload_n hx hb dX12_ends_1 rfl (lv_at hl 0 rfl) ?_
  refine gf_X12_16 X J dX12_ends_2 ?_
  refine lv_aload_n hx hb dX12_ends_5 rfl (lv_at hl 0 rfl) ?_
  refine gf_X12_488 X J dX12_ends_6 ?_
  refine lv_iconst (v := (1 : Int32)) hx hb dX12_ends_9 (by decide) ?_
  refine lv_isub hx hb dX12_ends_10 ?_
  obtain ⟨hin, hf⟩ := itx hf
  refine al_X12_X12f7 X J hin dX12_ends_11 ?_
  obtain ⟨r1, σ2, hc, hf⟩ := obd_some hf
  refine zr_callv (As := [.int (zA σ 3 ((zI σ 0 73) - (1 : Int32)).toNatClampNeg)]) (rest := []) X J 0 ho_R_X12.1 ho_R_X12.2.1 ho_R_X12.2.2 yy_X12_comesOut mw_methodLink_TinyCModel_547_TinyCModel_comesOut_IV (d := 0) (zR_ok (by omega) (by decide)) hl.1 rfl (Nat.le_of_ble_eq_true rfl) (tX12_comesOut  hc) dX12_ends_12 (fun H locs J => ?_)
  refine lv_aload_n hx hb dX12_ends_15 rfl (lv_at hl 0 rfl) ?_
  refine lv_aload_n hx hb dX12_ends_16 rfl (lv_at hl 0 rfl) ?_
  refine gf_X12_494 X J dX12_ends_17 ?_
  refine lv_if_ne hx hb dX12_ends_20 rfl (fun h => ?_) (fun h => ?_)
  · have hf := itn h hf
    refine lv_aload_n hx hb dX12_ends_27 rfl (lv_at hl 0 rfl) ?_
    refine gf_X12_494 X J dX12_ends_28 ?_
    exact bX12_ends_31 X   J (lv_sub hl [] rfl) hf
  · have hf := itp h hf
    refine lv_iconst (v := (1 : Int32)) hx hb dX12_ends_23 (by decide) ?_
    refine lv_goto hx hb dX12_ends_24 rfl ?_
    exact bX12_ends_31 X   J (lv_sub hl [] rfl) hf
set_option maxHeartbeats 4000000 in
theorem tX12_hasRoom {a1_ : Int32}  {σ u : zSt} {r : Int32} (hf : fX12_hasRoom N a1_ σ = some (r, u)) : zMi l yX12_hasRoom cX12_hasRoom 2 (some .boolean) (0) D cy shR ad ts lnR [.ref (ad 0), .int a1_] σ r u := by
  refine zM_of (by decide) (Nat.le_of_ble_eq_true rfl) (fun p e s m args below meth c ls ha X J hl => ?_)
  have hx := X.1
  have hb := X.2.1
  have hl : lv_has ls 2 [(0, .ref (ad 0)), (1, .int a1_)] := hl
  generalize s.heap = H at J ⊢
  generalize ([] : List Loc) = locs at J ⊢
  show W p l e (zRm (0)) s m args below meth c H locs 0 0 (zQi D cy shR ad ts lnR below args s (r, u)) (F0 m 0 ls [])
  unfold fX12_hasRoom at hf
  refine lv_aload_n hx hb dX12_hasRoom_0 rfl (lv_at hl 0 rfl) ?_
  refine gf_X12_488 X J dX12_hasRoom_1 ?_
  refine lv_iload_n hx hb dX12_hasRoom_4 rfl (lv_at hl 1 rfl) ?_
  refine lv_iadd hx hb dX12_hasRoom_5 ?_
  refine lv_aload_n hx hb dX12_hasRoom_6 rfl (lv_at hl 0 rfl) ?_
  refine gf_X12_170 X J dX12_hasRoom_7 ?_
  refine lv_icmp_le hx hb dX12_hasRoom_10 rfl (fun h => ?_) (fun h => ?_)
  · have hf := itp h hf
    refine lv_iconst (v := (1 : Int32)) hx hb dX12_hasRoom_20 (by decide) ?_
    exact zr_zretc X J (by decide) hf dX12_hasRoom_21
  · have hf := itn h hf
    refine lv_aload_n hx hb dX12_hasRoom_13 rfl (lv_at hl 0 rfl) ?_
    refine lv_iconst (v := (4 : Int32)) hx hb dX12_hasRoom_14 (by decide) ?_
    refine pf_X12_494 X J dX12_hasRoom_15 (fun σ1 H locs eq J => ?_)
    have hf := bnd_eq eq hf
    clear eq
    refine lv_iconst (v := (0 : Int32)) hx hb dX12_hasRoom_18 (by decide) ?_
    exact zr_zretc X J (by decide) hf dX12_hasRoom_19
set_option maxHeartbeats 4000000 in
theorem tX12_pushes {a1_ : Int32}  {σ u : zSt} {r : Unit} (hf : fX12_pushes N a1_ σ = some (r, u)) : zMv l yX12_pushes cX12_pushes 2 none (1) D cy shR ad ts lnR [.ref (ad 0), .int a1_] σ u := by
  refine zM_of (by decide) (Nat.le_of_ble_eq_true rfl) (fun p e s m args below meth c ls ha X J hl => ?_)
  have hx := X.1
  have hb := X.2.1
  have hl : lv_has ls 2 [(0, .ref (ad 0)), (1, .int a1_)] := hl
  generalize s.heap = H at J ⊢
  generalize ([] : List Loc) = locs at J ⊢
  show W p l e (zRm (1)) s m args below meth c H locs 0 0 (zQv D cy shR ad ts lnR below args s (r, u)) (F0 m 0 ls [])
  unfold fX12_pushes at hf
  refine lv_aload_n hx hb dX12_pushes_0 rfl (lv_at hl 0 rfl) ?_
  refine lv_iconst (v := (1 : Int32)) hx hb dX12_pushes_1 (by decide) ?_
  obtain ⟨r1, σ2, hc, hf⟩ := obd_some hf
  refine zr_calli (As := [.int (1 : Int32)]) (rest := []) X J 0 ho_R_X12.1 ho_R_X12.2.1 ho_R_X12.2.2 yy_X12_hasRoom mw_methodLink_TinyCModel_527_TinyCModel_hasRoom_IZ (d := 0) (zR_ok (by omega) (by decide)) hl.1 rfl (Nat.le_of_ble_eq_true rfl) (tX12_hasRoom  hc) dX12_pushes_2 (fun H locs J => ?_)
  refine lv_if_eq hx hb dX12_pushes_5 rfl (fun h => ?_) (fun h => ?_)
  · have hf := itp h hf
    exact zr_vret X J hf dX12_pushes_28
  · have hf := itn h hf
    refine lv_aload_n hx hb dX12_pushes_8 rfl (lv_at hl 0 rfl) ?_
    refine gf_X12_16 X J dX12_pushes_9 ?_
    refine lv_aload_n hx hb dX12_pushes_12 rfl (lv_at hl 0 rfl) ?_
    refine gf_X12_488 X J dX12_pushes_13 ?_
    refine lv_iload_n hx hb dX12_pushes_16 rfl (lv_at hl 1 rfl) ?_
    obtain ⟨hin, hf⟩ := itx hf
    refine as_X12_X12f7 X J hin dX12_pushes_17 (fun σ3 H locs eq J => ?_)
    have hf := bnd_eq eq hf
    clear eq
    refine lv_aload_n hx hb dX12_pushes_18 rfl (lv_at hl 0 rfl) ?_
    refine lv_dup hx hb dX12_pushes_19 rfl ?_
    refine gf_X12_488 X J dX12_pushes_20 ?_
    refine lv_iconst (v := (1 : Int32)) hx hb dX12_pushes_23 (by decide) ?_
    refine lv_iadd hx hb dX12_pushes_24 ?_
    refine pf_X12_488 X J dX12_pushes_25 (fun σ4 H locs eq J => ?_)
    have hf := bnd_eq eq hf
    clear eq
    exact zr_vret X J hf dX12_pushes_28
set_option maxHeartbeats 4000000 in
theorem bX12_items_33 {o : Unit × zSt} (X : zX p s m args meth c D cy shR ad ts cX12_items 6 none RX12)    {σ : zSt} {H : Heap} {locs : List Loc} {ls : Array Slot} (J : zJ D cy shR ad lnR s σ H locs) (hl : lv_has ls 6 [(0, .ref (ad 0))]) (hf : fX12_items_b33 N   σ = some o) : W p l e (zRm (2)) s m args below meth c H locs 0 0 (zQv D cy shR ad ts lnR below args s o) (F0 m 33 ls []) := by
  have hx := X.1
  have hb := X.2.1
  unfold fX12_items_b33 at hf
  refine lv_aload_n hx hb dX12_items_33 rfl (lv_at hl 0 rfl) ?_
  refine lv_iconst (v := (3 : Int32)) hx hb dX12_items_34 (by decide) ?_
  refine pf_X12_494 X J dX12_items_35 (fun σ3 H locs eq J => ?_)
  have hf := bnd_eq eq hf
  clear eq
  refine lv_goto hx hb dX12_items_38 rfl ?_
  exact zr_vret X J hf dX12_items_74
set_option maxHeartbeats 4000000 in
theorem bX12_items_14 {o : Unit × zSt} (X : zX p s m args meth c D cy shR ad ts cX12_items 6 none RX12)  {x1_ : Int32} {x2_ : Int32} {x3_ : Int32} {s0_ : Int32}  {σ : zSt} {H : Heap} {locs : List Loc} {ls : Array Slot} (J : zJ D cy shR ad lnR s σ H locs) (hl : lv_has ls 6 [(0, .ref (ad 0)), (1, .int x1_), (2, .int x2_), (3, .int x3_)]) (hf : fX12_items_b14 N  x1_ x2_ x3_ s0_ σ = some o) : W p l e (zRm (2)) s m args below meth c H locs 0 0 (zQv D cy shR ad ts lnR below args s o) (F0 m 14 ls [.int s0_]) := by
  have hx := X.1
  have hb := X.2.1
  unfold fX12_items_b14 at hf
  refine lv_istore hx hb dX12_items_14 hl (by decide) rfl (fun ls hl => ?_)
  have hl : lv_has ls 6 [(4, .int s0_), (0, .ref (ad 0)), (1, .int x1_), (2, .int x2_), (3, .int x3_)] := hl
  refine lv_aload_n hx hb dX12_items_16 rfl (lv_at hl 1 rfl) ?_
  obtain ⟨r1, σ2, hc, hf⟩ := obd_some hf
  refine zr_calli (As := []) (rest := []) X J 0 ho_R_X12.1 ho_R_X12.2.1 ho_R_X12.2.2 yy_X12_top mw_methodLink_TinyCModel_539_TinyCModel_top_I (d := 0) (zR_ok (by omega) (by decide)) hl.1 rfl (Nat.le_of_ble_eq_true rfl) (tX12_top  hc) dX12_items_17 (fun H locs J => ?_)
  refine lv_istore hx hb dX12_items_20 hl (by decide) rfl (fun ls hl => ?_)
  have hl : lv_has ls 6 [(5, .int r1), (4, .int s0_), (0, .ref (ad 0)), (1, .int x1_), (2, .int x2_), (3, .int x3_)] := hl
  refine lv_iload hx hb dX12_items_22 (lv_at hl 0 rfl) ?_
  refine lv_if_lt hx hb dX12_items_24 rfl (fun h => ?_) (fun h => ?_)
  · have hf := itp h hf
    exact bX12_items_33 X   J (lv_sub hl [2] rfl) hf
  · have hf := itn h hf
    refine lv_iload hx hb dX12_items_27 (lv_at hl 0 rfl) ?_
    refine lv_iload_n hx hb dX12_items_29 rfl (lv_at hl 5 rfl) ?_
    refine lv_icmp_lt hx hb dX12_items_30 rfl (fun h => ?_) (fun h => ?_)
    · have hf := itp h hf
      refine lv_iload_n hx hb dX12_items_41 rfl (lv_at hl 3 rfl) ?_
      refine lv_bipush (v := (7 : Int32)) hx hb dX12_items_42 (by decide) ?_
      refine lv_icmp_ne hx hb dX12_items_44 rfl (fun h => ?_) (fun h => ?_)
      · have hf := itn h hf
        refine lv_aload_n hx hb dX12_items_61 rfl (lv_at hl 2 rfl) ?_
        refine lv_aload_n hx hb dX12_items_62 rfl (lv_at hl 2 rfl) ?_
        refine gf_X12_16 X J dX12_items_63 ?_
        refine lv_iload_n hx hb dX12_items_66 rfl (lv_at hl 4 rfl) ?_
        refine lv_iload hx hb dX12_items_67 (lv_at hl 0 rfl) ?_
        refine lv_iadd hx hb dX12_items_69 ?_
        obtain ⟨hin, hf⟩ := itx hf
        refine al_X12_X12f7 X J hin dX12_items_70 ?_
        obtain ⟨r4, σ5, hc, hf⟩ := obd_some hf
        refine zr_callv (As := [.int (zA σ2 3 (x2_ + r1).toNatClampNeg)]) (rest := []) X J 0 ho_R_X12.1 ho_R_X12.2.1 ho_R_X12.2.2 yy_X12_pushes mw_methodLink_TinyCModel_536_TinyCModel_pushes_IV (d := 1) (zR_ok (by omega) (by decide)) hl.1 rfl (Nat.le_of_ble_eq_true rfl) (tX12_pushes  hc) dX12_items_71 (fun H locs J => ?_)
        exact zr_vret X J hf dX12_items_74
      · have hf := itp h hf
        refine lv_aload_n hx hb dX12_items_47 rfl (lv_at hl 2 rfl) ?_
        refine gf_X12_16 X J dX12_items_48 ?_
        refine lv_iload_n hx hb dX12_items_51 rfl (lv_at hl 4 rfl) ?_
        refine lv_iload hx hb dX12_items_52 (lv_at hl 0 rfl) ?_
        refine lv_iadd hx hb dX12_items_54 ?_
        refine lv_iload hx hb dX12_items_55 (lv_at hl 1 rfl) ?_
        obtain ⟨hin, hf⟩ := itx hf
        refine as_X12_X12f7 X J hin dX12_items_57 (fun σ6 H locs eq J => ?_)
        have hf := bnd_eq eq hf
        clear eq
        refine lv_goto hx hb dX12_items_58 rfl ?_
        exact zr_vret X J hf dX12_items_74
    · have hf := itn h hf
      exact bX12_items_33 X   J (lv_sub hl [2] rfl) hf
set_option maxHeartbeats 4000000 in
theorem tX12_items {a1_ : Int32} {a2_ : Int32} {a3_ : Int32}  {σ u : zSt} {r : Unit} (hf : fX12_items N a1_ a2_ a3_ σ = some (r, u)) : zMv l yX12_items cX12_items 6 none (2) D cy shR ad ts lnR [.ref (ad 0), .int a1_, .int a2_, .int a3_] σ u := by
  refine zM_of (by decide) (Nat.le_of_ble_eq_true rfl) (fun p e s m args below meth c ls ha X J hl => ?_)
  have hx := X.1
  have hb := X.2.1
  have hl : lv_has ls 6 [(0, .ref (ad 0)), (1, .int a1_), (2, .int a2_), (3, .int a3_)] := hl
  generalize s.heap = H at J ⊢
  generalize ([] : List Loc) = locs at J ⊢
  show W p l e (zRm (2)) s m args below meth c H locs 0 0 (zQv D cy shR ad ts lnR below args s (r, u)) (F0 m 0 ls [])
  unfold fX12_items at hf
  refine lv_iload_n hx hb dX12_items_0 rfl (lv_at hl 1 rfl) ?_
  refine lv_bipush (v := (7 : Int32)) hx hb dX12_items_1 (by decide) ?_
  refine lv_icmp_ne hx hb dX12_items_3 rfl (fun h => ?_) (fun h => ?_)
  · have hf := itn h hf
    refine lv_iconst (v := (0 : Int32)) hx hb dX12_items_13 (by decide) ?_
    exact bX12_items_14 X   J (lv_sub hl [0, 1, 2, 3] rfl) hf
  · have hf := itp h hf
    refine lv_aload_n hx hb dX12_items_6 rfl (lv_at hl 0 rfl) ?_
    obtain ⟨r7, σ8, hc, hf⟩ := obd_some hf
    refine zr_calli (As := []) (rest := []) X J 0 ho_R_X12.1 ho_R_X12.2.1 ho_R_X12.2.2 yy_X12_top mw_methodLink_TinyCModel_539_TinyCModel_top_I (d := 0) (zR_ok (by omega) (by decide)) hl.1 rfl (Nat.le_of_ble_eq_true rfl) (tX12_top  hc) dX12_items_7 (fun H locs J => ?_)
    refine lv_goto hx hb dX12_items_10 rfl ?_
    exact bX12_items_14 X   J (lv_sub hl [0, 1, 2, 3] rfl) hf
set_option maxHeartbeats 4000000 in
theorem bX12_acts_319 {o : Unit × zSt} (X : zX p s m args meth c D cy shR ad ts cX12_acts 6 none RX12)  : ∀ (n : Nat) (x2_ : Int32) (x4_ : Int32) (σ : zSt) (H : Heap) (locs : List Loc) (ls : Array Slot), zJ D cy shR ad lnR s σ H locs → lv_has ls 6 [(0, .ref (ad 0)), (2, .int x2_), (4, .int x4_)] → fX12_acts_b319 N  n x2_ x4_ σ = some o → W p l e (zRm (1)) s m args below meth c H locs 0 0 (zQv D cy shR ad ts lnR below args s o) (F0 m 319 ls []) := by
  have hx := X.1
  have hb := X.2.1
  intro n
  induction n with
  | zero =>
    intro x2_ x4_ σ H locs ls J hl hf
    rw [fX12_acts_b319] at hf
    cases hf
  | succ n ih =>
    intro x2_ x4_ σ H locs ls J hl hf
    rw [fX12_acts_b319] at hf
    refine lv_iload hx hb dX12_acts_319 (lv_at hl 2 rfl) ?_
    refine lv_iload_n hx hb dX12_acts_321 rfl (lv_at hl 1 rfl) ?_
    refine lv_icmp_ge hx hb dX12_acts_322 rfl (fun h => ?_) (fun h => ?_)
    · have hf := itp h hf
      refine lv_aload_n hx hb dX12_acts_344 rfl (lv_at hl 0 rfl) ?_
      refine lv_dup hx hb dX12_acts_345 rfl ?_
      refine gf_X12_488 X J dX12_acts_346 ?_
      refine lv_iload_n hx hb dX12_acts_349 rfl (lv_at hl 1 rfl) ?_
      refine lv_iadd hx hb dX12_acts_350 ?_
      refine pf_X12_488 X J dX12_acts_351 (fun σ34 H locs eq J => ?_)
      have hf := bnd_eq eq hf
      clear eq
      exact zr_vret X J hf dX12_acts_354
    · have hf := itn h hf
      refine lv_aload_n hx hb dX12_acts_325 rfl (lv_at hl 0 rfl) ?_
      refine gf_X12_16 X J dX12_acts_326 ?_
      refine lv_aload_n hx hb dX12_acts_329 rfl (lv_at hl 0 rfl) ?_
      refine gf_X12_488 X J dX12_acts_330 ?_
      refine lv_iload hx hb dX12_acts_333 (lv_at hl 2 rfl) ?_
      refine lv_iadd hx hb dX12_acts_335 ?_
      refine lv_iconst (v := (0 : Int32)) hx hb dX12_acts_336 (by decide) ?_
      obtain ⟨hin, hf⟩ := itx hf
      refine as_X12_X12f7 X J hin dX12_acts_337 (fun σ35 H locs eq J => ?_)
      have hf := bnd_eq eq hf
      clear eq
      obtain ⟨x36, eq⟩ : ∃ z, z = x4_ + (1 : Int32) := ⟨_, rfl⟩
      have hf := bnd_eq eq hf
      refine lv_iinc hx hb dX12_acts_338 hl (k := 2) rfl (v := x36) (by rw [eq]; rfl) (by decide) rfl (fun ls hl => ?_)
      clear eq
      have hl : lv_has ls 6 [(4, .int x36), (0, .ref (ad 0)), (2, .int x2_)] := hl
      refine lv_goto hx hb dX12_acts_341 rfl ?_
      exact ih _ _ _ _ _ _ J (lv_sub hl [1, 2, 0] rfl) hf
set_option maxHeartbeats 4000000 in
theorem tX12_acts {a1_ : Int32} {a2_ : Int32} {a3_ : Int32}  {σ u : zSt} {r : Unit} (hf : fX12_acts N a1_ a2_ a3_ σ = some (r, u)) : zMv l yX12_acts cX12_acts 6 none (1) D cy shR ad ts lnR [.ref (ad 0), .int a1_, .int a2_, .int a3_] σ u := by
  refine zM_of (by decide) (Nat.le_of_ble_eq_true rfl) (fun p e s m args below meth c ls ha X J hl => ?_)
  have hx := X.1
  have hb := X.2.1
  have hl : lv_has ls 6 [(0, .ref (ad 0)), (1, .int a1_), (2, .int a2_), (3, .int a3_)] := hl
  generalize s.heap = H at J ⊢
  generalize ([] : List Loc) = locs at J ⊢
  show W p l e (zRm (1)) s m args below meth c H locs 0 0 (zQv D cy shR ad ts lnR below args s (r, u)) (F0 m 0 ls [])
  unfold fX12_acts at hf
  refine lv_iload_n hx hb dX12_acts_0 rfl (lv_at hl 1 rfl) ?_
  by_cases h0_ : a1_ = (32 : Int32)
  · have hf := itp h0_ hf
    rw [h0_]
    refine lv_tableIn hx hb dX12_acts_1 (by decide) (by decide) (tgt := 36) (by rfl) (by decide) ?_
    refine lv_aload_n hx hb dX12_acts_36 rfl (lv_at hl 0 rfl) ?_
    refine lv_iconst (v := (2 : Int32)) hx hb dX12_acts_37 (by decide) ?_
    obtain ⟨r1, σ2, hc, hf⟩ := obd_some hf
    refine zr_calli (As := [.int (2 : Int32)]) (rest := []) X J 0 ho_R_X12.1 ho_R_X12.2.1 ho_R_X12.2.2 yy_X12_hasRoom mw_methodLink_TinyCModel_527_TinyCModel_hasRoom_IZ (d := 0) (zR_ok (by omega) (by decide)) hl.1 rfl (Nat.le_of_ble_eq_true rfl) (tX12_hasRoom  hc) dX12_acts_38 (fun H locs J => ?_)
    refine lv_if_eq hx hb dX12_acts_41 rfl (fun h => ?_) (fun h => ?_)
    · have hf := itp h hf
      exact zr_vret X J hf dX12_acts_354
    · have hf := itn h hf
      refine lv_aload_n hx hb dX12_acts_44 rfl (lv_at hl 0 rfl) ?_
      refine gf_X12_16 X J dX12_acts_45 ?_
      refine lv_aload_n hx hb dX12_acts_48 rfl (lv_at hl 0 rfl) ?_
      refine gf_X12_488 X J dX12_acts_49 ?_
      refine lv_aload_n hx hb dX12_acts_52 rfl (lv_at hl 0 rfl) ?_
      refine gf_X12_485 X J dX12_acts_53 ?_
      refine lv_iconst (v := (3 : Int32)) hx hb dX12_acts_56 (by decide) ?_
      refine lv_iadd hx hb dX12_acts_57 ?_
      obtain ⟨hin, hf⟩ := itx hf
      refine as_X12_X12f7 X J hin dX12_acts_58 (fun σ3 H locs eq J => ?_)
      have hf := bnd_eq eq hf
      clear eq
      refine lv_aload_n hx hb dX12_acts_59 rfl (lv_at hl 0 rfl) ?_
      refine gf_X12_16 X J dX12_acts_60 ?_
      refine lv_aload_n hx hb dX12_acts_63 rfl (lv_at hl 0 rfl) ?_
      refine gf_X12_488 X J dX12_acts_64 ?_
      refine lv_iconst (v := (1 : Int32)) hx hb dX12_acts_67 (by decide) ?_
      refine lv_iadd hx hb dX12_acts_68 ?_
      refine lv_aload_n hx hb dX12_acts_69 rfl (lv_at hl 0 rfl) ?_
      refine gf_X12_491 X J dX12_acts_70 ?_
      obtain ⟨hin, hf⟩ := itx hf
      refine as_X12_X12f7 X J hin dX12_acts_73 (fun σ4 H locs eq J => ?_)
      have hf := bnd_eq eq hf
      clear eq
      refine lv_aload_n hx hb dX12_acts_74 rfl (lv_at hl 0 rfl) ?_
      refine lv_dup hx hb dX12_acts_75 rfl ?_
      refine gf_X12_488 X J dX12_acts_76 ?_
      refine lv_iconst (v := (2 : Int32)) hx hb dX12_acts_79 (by decide) ?_
      refine lv_iadd hx hb dX12_acts_80 ?_
      refine pf_X12_488 X J dX12_acts_81 (fun σ5 H locs eq J => ?_)
      have hf := bnd_eq eq hf
      clear eq
      refine lv_aload_n hx hb dX12_acts_84 rfl (lv_at hl 0 rfl) ?_
      refine lv_aload_n hx hb dX12_acts_85 rfl (lv_at hl 0 rfl) ?_
      refine gf_X12_488 X J dX12_acts_86 ?_
      refine pf_X12_491 X J dX12_acts_89 (fun σ6 H locs eq J => ?_)
      have hf := bnd_eq eq hf
      clear eq
      refine lv_aload_n hx hb dX12_acts_92 rfl (lv_at hl 0 rfl) ?_
      refine lv_iload_n hx hb dX12_acts_93 rfl (lv_at hl 2 rfl) ?_
      refine pf_X12_485 X J dX12_acts_94 (fun σ7 H locs eq J => ?_)
      have hf := bnd_eq eq hf
      clear eq
      refine lv_goto hx hb dX12_acts_97 rfl ?_
      exact zr_vret X J hf dX12_acts_354
  have hf := itn h0_ hf
  by_cases h1_ : a1_ = (33 : Int32)
  · have hf := itp h1_ hf
    rw [h1_]
    refine lv_tableIn hx hb dX12_acts_1 (by decide) (by decide) (tgt := 100) (by rfl) (by decide) ?_
    refine lv_aload_n hx hb dX12_acts_100 rfl (lv_at hl 0 rfl) ?_
    obtain ⟨r8, σ9, hc, hf⟩ := obd_some hf
    refine zr_calli (As := []) (rest := []) X J 0 ho_R_X12.1 ho_R_X12.2.1 ho_R_X12.2.2 yy_X12_top mw_methodLink_TinyCModel_539_TinyCModel_top_I (d := 0) (zR_ok (by omega) (by decide)) hl.1 rfl (Nat.le_of_ble_eq_true rfl) (tX12_top  hc) dX12_acts_101 (fun H locs J => ?_)
    refine lv_istore hx hb dX12_acts_104 hl (by decide) rfl (fun ls hl => ?_)
    have hl : lv_has ls 6 [(4, .int r8), (0, .ref (ad 0)), (1, .int a1_), (2, .int a2_), (3, .int a3_)] := hl
    refine lv_aload_n hx hb dX12_acts_106 rfl (lv_at hl 1 rfl) ?_
    refine gf_X12_16 X J dX12_acts_107 ?_
    refine lv_aload_n hx hb dX12_acts_110 rfl (lv_at hl 1 rfl) ?_
    refine gf_X12_491 X J dX12_acts_111 ?_
    refine lv_iconst (v := (2 : Int32)) hx hb dX12_acts_114 (by decide) ?_
    refine lv_isub hx hb dX12_acts_115 ?_
    obtain ⟨hin, hf⟩ := itx hf
    refine al_X12_X12f7 X J hin dX12_acts_116 ?_
    refine lv_topi (fun x10 eq => ?_)
    have hf := bnd_eq eq hf
    clear eq
    refine lv_istore hx hb dX12_acts_117 hl (by decide) rfl (fun ls hl => ?_)
    have hl : lv_has ls 6 [(5, .int x10), (4, .int r8), (0, .ref (ad 0)), (1, .int a1_), (2, .int a2_), (3, .int a3_)] := hl
    refine lv_aload_n hx hb dX12_acts_119 rfl (lv_at hl 2 rfl) ?_
    refine lv_aload_n hx hb dX12_acts_120 rfl (lv_at hl 2 rfl) ?_
    refine gf_X12_491 X J dX12_acts_121 ?_
    refine lv_iconst (v := (2 : Int32)) hx hb dX12_acts_124 (by decide) ?_
    refine lv_isub hx hb dX12_acts_125 ?_
    refine lv_iload_n hx hb dX12_acts_126 rfl (lv_at hl 4 rfl) ?_
    refine lv_isub hx hb dX12_acts_127 ?_
    refine pf_X12_488 X J dX12_acts_128 (fun σ11 H locs eq J => ?_)
    have hf := bnd_eq eq hf
    clear eq
    refine lv_aload_n hx hb dX12_acts_131 rfl (lv_at hl 2 rfl) ?_
    refine lv_aload_n hx hb dX12_acts_132 rfl (lv_at hl 2 rfl) ?_
    refine gf_X12_16 X J dX12_acts_133 ?_
    refine lv_aload_n hx hb dX12_acts_136 rfl (lv_at hl 2 rfl) ?_
    refine gf_X12_491 X J dX12_acts_137 ?_
    refine lv_iconst (v := (1 : Int32)) hx hb dX12_acts_140 (by decide) ?_
    refine lv_isub hx hb dX12_acts_141 ?_
    obtain ⟨hin, hf⟩ := itx hf
    refine al_X12_X12f7 X J hin dX12_acts_142 ?_
    refine pf_X12_491 X J dX12_acts_143 (fun σ12 H locs eq J => ?_)
    have hf := bnd_eq eq hf
    clear eq
    refine lv_aload_n hx hb dX12_acts_146 rfl (lv_at hl 2 rfl) ?_
    refine lv_iload hx hb dX12_acts_147 (lv_at hl 0 rfl) ?_
    refine pf_X12_485 X J dX12_acts_149 (fun σ13 H locs eq J => ?_)
    have hf := bnd_eq eq hf
    clear eq
    refine lv_aload_n hx hb dX12_acts_152 rfl (lv_at hl 2 rfl) ?_
    refine gf_X12_16 X J dX12_acts_153 ?_
    refine lv_aload_n hx hb dX12_acts_156 rfl (lv_at hl 2 rfl) ?_
    refine gf_X12_488 X J dX12_acts_157 ?_
    refine lv_iload hx hb dX12_acts_160 (lv_at hl 1 rfl) ?_
    obtain ⟨hin, hf⟩ := itx hf
    refine as_X12_X12f7 X J hin dX12_acts_162 (fun σ14 H locs eq J => ?_)
    have hf := bnd_eq eq hf
    clear eq
    refine lv_aload_n hx hb dX12_acts_163 rfl (lv_at hl 2 rfl) ?_
    refine lv_dup hx hb dX12_acts_164 rfl ?_
    refine gf_X12_488 X J dX12_acts_165 ?_
    refine lv_iconst (v := (1 : Int32)) hx hb dX12_acts_168 (by decide) ?_
    refine lv_iadd hx hb dX12_acts_169 ?_
    refine pf_X12_488 X J dX12_acts_170 (fun σ15 H locs eq J => ?_)
    have hf := bnd_eq eq hf
    clear eq
    refine lv_goto hx hb dX12_acts_173 rfl ?_
    exact zr_vret X J hf dX12_acts_354
  have hf := itn h1_ hf
  by_cases h2_ : a1_ = (34 : Int32)
  · have hf := itp h2_ hf
    rw [h2_]
    refine lv_tableIn hx hb dX12_acts_1 (by decide) (by decide) (tgt := 176) (by rfl) (by decide) ?_
    refine lv_aload_n hx hb dX12_acts_176 rfl (lv_at hl 0 rfl) ?_
    refine lv_dup hx hb dX12_acts_177 rfl ?_
    refine gf_X12_485 X J dX12_acts_178 ?_
    refine lv_iconst (v := (1 : Int32)) hx hb dX12_acts_181 (by decide) ?_
    refine lv_iadd hx hb dX12_acts_182 ?_
    refine pf_X12_485 X J dX12_acts_183 (fun σ16 H locs eq J => ?_)
    have hf := bnd_eq eq hf
    clear eq
    refine lv_aload_n hx hb dX12_acts_186 rfl (lv_at hl 0 rfl) ?_
    refine lv_aload_n hx hb dX12_acts_187 rfl (lv_at hl 0 rfl) ?_
    obtain ⟨r17, σ18, hc, hf⟩ := obd_some hf
    refine zr_calli (As := []) (rest := [.ref (ad 0)]) X J 0 ho_R_X12.1 ho_R_X12.2.1 ho_R_X12.2.2 yy_X12_top mw_methodLink_TinyCModel_539_TinyCModel_top_I (d := 0) (zR_ok (by omega) (by decide)) hl.1 rfl (Nat.le_of_ble_eq_true rfl) (tX12_top  hc) dX12_acts_188 (fun H locs J => ?_)
    obtain ⟨r19, σ20, hc, hf⟩ := obd_some hf
    refine zr_callv (As := [.int r17]) (rest := []) X J 0 ho_R_X12.1 ho_R_X12.2.1 ho_R_X12.2.2 yy_X12_comesOut mw_methodLink_TinyCModel_547_TinyCModel_comesOut_IV (d := 0) (zR_ok (by omega) (by decide)) hl.1 rfl (Nat.le_of_ble_eq_true rfl) (tX12_comesOut  hc) dX12_acts_191 (fun H locs J => ?_)
    refine lv_goto hx hb dX12_acts_194 rfl ?_
    exact zr_vret X J hf dX12_acts_354
  have hf := itn h2_ hf
  by_cases h3_ : a1_ = (35 : Int32)
  · have hf := itp h3_ hf
    rw [h3_]
    refine lv_tableIn hx hb dX12_acts_1 (by decide) (by decide) (tgt := 197) (by rfl) (by decide) ?_
    refine lv_aload_n hx hb dX12_acts_197 rfl (lv_at hl 0 rfl) ?_
    refine lv_dup hx hb dX12_acts_198 rfl ?_
    refine gf_X12_485 X J dX12_acts_199 ?_
    refine lv_iconst (v := (1 : Int32)) hx hb dX12_acts_202 (by decide) ?_
    refine lv_iadd hx hb dX12_acts_203 ?_
    refine pf_X12_485 X J dX12_acts_204 (fun σ21 H locs eq J => ?_)
    have hf := bnd_eq eq hf
    clear eq
    refine lv_aload_n hx hb dX12_acts_207 rfl (lv_at hl 0 rfl) ?_
    refine gf_X12_503 X J dX12_acts_208 ?_
    refine lv_aload_n hx hb dX12_acts_211 rfl (lv_at hl 0 rfl) ?_
    refine gf_X12_482 X J dX12_acts_212 ?_
    refine lv_icmp_ne hx hb dX12_acts_215 rfl (fun h => ?_) (fun h => ?_)
    · have hf := itn h hf
      refine lv_aload_n hx hb dX12_acts_226 rfl (lv_at hl 0 rfl) ?_
      refine lv_iconst (v := (1 : Int32)) hx hb dX12_acts_227 (by decide) ?_
      obtain ⟨r22, σ23, hc, hf⟩ := obd_some hf
      refine zr_calli (As := [.int (1 : Int32)]) (rest := []) X J 0 ho_R_X12.1 ho_R_X12.2.1 ho_R_X12.2.2 yy_X12_hasRoom mw_methodLink_TinyCModel_527_TinyCModel_hasRoom_IZ (d := 0) (zR_ok (by omega) (by decide)) hl.1 rfl (Nat.le_of_ble_eq_true rfl) (tX12_hasRoom  hc) dX12_acts_228 (fun H locs J => ?_)
      refine lv_if_eq hx hb dX12_acts_231 rfl (fun h => ?_) (fun h => ?_)
      · have hf := itp h hf
        exact zr_vret X J hf dX12_acts_354
      · have hf := itn h hf
        refine lv_aload_n hx hb dX12_acts_234 rfl (lv_at hl 0 rfl) ?_
        refine gf_X12_16 X J dX12_acts_235 ?_
        refine lv_aload_n hx hb dX12_acts_238 rfl (lv_at hl 0 rfl) ?_
        refine gf_X12_488 X J dX12_acts_239 ?_
        refine lv_aload_n hx hb dX12_acts_242 rfl (lv_at hl 0 rfl) ?_
        refine gf_X12_19 X J dX12_acts_243 ?_
        refine lv_aload_n hx hb dX12_acts_246 rfl (lv_at hl 0 rfl) ?_
        refine gf_X12_503 X J dX12_acts_247 ?_
        obtain ⟨hin, hf⟩ := itx hf
        refine al_X12_X12f9 X J hin dX12_acts_250 ?_
        obtain ⟨hin, hf⟩ := itx hf
        refine as_X12_X12f7 X J hin dX12_acts_251 (fun σ24 H locs eq J => ?_)
        have hf := bnd_eq eq hf
        clear eq
        refine lv_aload_n hx hb dX12_acts_252 rfl (lv_at hl 0 rfl) ?_
        refine lv_dup hx hb dX12_acts_253 rfl ?_
        refine gf_X12_488 X J dX12_acts_254 ?_
        refine lv_iconst (v := (1 : Int32)) hx hb dX12_acts_257 (by decide) ?_
        refine lv_iadd hx hb dX12_acts_258 ?_
        refine pf_X12_488 X J dX12_acts_259 (fun σ25 H locs eq J => ?_)
        have hf := bnd_eq eq hf
        clear eq
        refine lv_aload_n hx hb dX12_acts_262 rfl (lv_at hl 0 rfl) ?_
        refine lv_dup hx hb dX12_acts_263 rfl ?_
        refine gf_X12_503 X J dX12_acts_264 ?_
        refine lv_iconst (v := (1 : Int32)) hx hb dX12_acts_267 (by decide) ?_
        refine lv_iadd hx hb dX12_acts_268 ?_
        refine pf_X12_503 X J dX12_acts_269 (fun σ26 H locs eq J => ?_)
        have hf := bnd_eq eq hf
        clear eq
        refine lv_goto hx hb dX12_acts_272 rfl ?_
        exact zr_vret X J hf dX12_acts_354
    · have hf := itp h hf
      refine lv_aload_n hx hb dX12_acts_218 rfl (lv_at hl 0 rfl) ?_
      refine lv_iconst (v := (5 : Int32)) hx hb dX12_acts_219 (by decide) ?_
      refine pf_X12_494 X J dX12_acts_220 (fun σ27 H locs eq J => ?_)
      have hf := bnd_eq eq hf
      clear eq
      refine lv_goto hx hb dX12_acts_223 rfl ?_
      exact zr_vret X J hf dX12_acts_354
  have hf := itn h3_ hf
  by_cases h4_ : a1_ = (36 : Int32)
  · have hf := itp h4_ hf
    rw [h4_]
    refine lv_tableIn hx hb dX12_acts_1 (by decide) (by decide) (tgt := 275) (by rfl) (by decide) ?_
    refine lv_aload_n hx hb dX12_acts_275 rfl (lv_at hl 0 rfl) ?_
    refine lv_dup hx hb dX12_acts_276 rfl ?_
    refine gf_X12_485 X J dX12_acts_277 ?_
    refine lv_iconst (v := (1 : Int32)) hx hb dX12_acts_280 (by decide) ?_
    refine lv_iadd hx hb dX12_acts_281 ?_
    refine pf_X12_485 X J dX12_acts_282 (fun σ28 H locs eq J => ?_)
    have hf := bnd_eq eq hf
    clear eq
    refine lv_aload_n hx hb dX12_acts_285 rfl (lv_at hl 0 rfl) ?_
    refine lv_dup hx hb dX12_acts_286 rfl ?_
    refine gf_X12_488 X J dX12_acts_287 ?_
    refine lv_iconst (v := (1 : Int32)) hx hb dX12_acts_290 (by decide) ?_
    refine lv_isub hx hb dX12_acts_291 ?_
    refine pf_X12_488 X J dX12_acts_292 (fun σ29 H locs eq J => ?_)
    have hf := bnd_eq eq hf
    clear eq
    refine lv_goto hx hb dX12_acts_295 rfl ?_
    exact zr_vret X J hf dX12_acts_354
  have hf := itn h4_ hf
  refine lv_tableOut hx hb dX12_acts_1 (tgt := 298) (by have := lv_neT h0_ (a := 32) (by decide); have := lv_neT h1_ (a := 33) (by decide); have := lv_neT h2_ (a := 34) (by decide); have := lv_neT h3_ (a := 35) (by decide); have := lv_neT h4_ (a := 36) (by decide); omega) (by decide) ?_
  refine lv_aload_n hx hb dX12_acts_298 rfl (lv_at hl 0 rfl) ?_
  refine lv_dup hx hb dX12_acts_299 rfl ?_
  refine gf_X12_485 X J dX12_acts_300 ?_
  refine lv_iconst (v := (2 : Int32)) hx hb dX12_acts_303 (by decide) ?_
  refine lv_iadd hx hb dX12_acts_304 ?_
  refine pf_X12_485 X J dX12_acts_305 (fun σ30 H locs eq J => ?_)
  have hf := bnd_eq eq hf
  clear eq
  refine lv_aload_n hx hb dX12_acts_308 rfl (lv_at hl 0 rfl) ?_
  refine lv_iload_n hx hb dX12_acts_309 rfl (lv_at hl 2 rfl) ?_
  obtain ⟨r31, σ32, hc, hf⟩ := obd_some hf
  refine zr_calli (As := [.int a2_]) (rest := []) X J 0 ho_R_X12.1 ho_R_X12.2.1 ho_R_X12.2.2 yy_X12_hasRoom mw_methodLink_TinyCModel_527_TinyCModel_hasRoom_IZ (d := 0) (zR_ok (by omega) (by decide)) hl.1 rfl (Nat.le_of_ble_eq_true rfl) (tX12_hasRoom  hc) dX12_acts_310 (fun H locs J => ?_)
  refine lv_if_eq hx hb dX12_acts_313 rfl (fun h => ?_) (fun h => ?_)
  · have hf := itp h hf
    exact zr_vret X J hf dX12_acts_354
  · have hf := itn h hf
    refine lv_iconst (v := (0 : Int32)) hx hb dX12_acts_316 (by decide) ?_
    refine lv_topi (fun x33 eq => ?_)
    have hf := bnd_eq eq hf
    clear eq
    refine lv_istore hx hb dX12_acts_317 hl (by decide) rfl (fun ls hl => ?_)
    have hl : lv_has ls 6 [(4, .int x33), (0, .ref (ad 0)), (1, .int a1_), (2, .int a2_), (3, .int a3_)] := hl
    exact bX12_acts_319 X  N _ _ _ _ _ _ J (lv_sub hl [1, 3, 0] rfl) hf
end
