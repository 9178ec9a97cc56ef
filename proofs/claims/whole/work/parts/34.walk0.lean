section
variable {p : Program} {l : Launch} {e : Env} {s : State} {m : MethodId} {args : Array Value} {below : List Frame} {meth : Method} {c : Code} {D : va_G} {cy : Nat → ClassId} {ad ts : Nat → Nat} {ln : Nat → Nat} {N M : Nat}
set_option maxHeartbeats 4000000 in
theorem tX11_clip {a0_ : Int32}  {σ u : zSt} {r : Int32} (hf : fX11_clip ln N M a0_ σ = some (r, u)) : zMi l yX11_clip cX11_clip 1 (some .int) (1) D cy shC ad ts ln [.int a0_] σ r u := by
  refine zM_of (by decide) (Nat.le_of_ble_eq_true rfl) (fun p e s m args below meth c ls ha X J hl => ?_)
  have hx := X.1
  have hb := X.2.1
  have hl : lv_has ls 1 [(0, .int a0_)] := hl
  generalize s.heap = H at J ⊢
  generalize ([] : List Loc) = locs at J ⊢
  show W p l e (zRm (1)) s m args below meth c H locs 0 0 (zQi D cy shC ad ts ln below args s (r, u)) (F0 m 0 ls [])
  unfold fX11_clip at hf
  refine lv_iconst (v := (0 : Int32)) hx hb dX11_clip_0 (by decide) ?_
  refine lv_iload_n hx hb dX11_clip_1 rfl (lv_at hl 0 rfl) ?_
  refine lv_sipush (v := (4096 : Int32)) hx hb dX11_clip_2 (by decide) ?_
  refine va_mmin (rest := [.int (0 : Int32)]) hx hb (X.2.2.1.trans hl.1.symm) X.2.2.2.1 (X.2.2.2.2.1 _ mw_methodLink_TinyC_79_javalangMath_min_III) (X.2.2.2.2.1 _ mw_static_javalangMath_min_III) (X.2.2.2.2.1 _ mw_initialized_javalangMath) (X.2.2.2.2.1 _ mw_code_javalangMath_min_III) (zR_1a (by omega)) (zR_1b (by omega) (Nat.le_of_ble_eq_true rfl)) (Nat.zero_le _) (Nat.zero_le _) dX11_clip_5 ?_
  refine va_mmax (rest := []) hx hb (X.2.2.1.trans hl.1.symm) X.2.2.2.1 (X.2.2.2.2.1 _ mw_methodLink_TinyC_85_javalangMath_max_III) (X.2.2.2.2.1 _ mw_static_javalangMath_max_III) (X.2.2.2.2.1 _ mw_initialized_javalangMath) (X.2.2.2.2.1 _ mw_code_javalangMath_max_III) (zR_1a (by omega)) (zR_1b (by omega) (Nat.le_of_ble_eq_true rfl)) (Nat.zero_le _) (Nat.zero_le _) dX11_clip_8 ?_
  exact zr_iret X J hf dX11_clip_11
set_option maxHeartbeats 4000000 in
theorem bJ7_fill_53178_5 {o : Unit × zSt} {a0_ : Nat} (ha0_ : a0_ = 26 ∨ a0_ = 30) (X : zX p s m args meth c D cy shC ad ts cJ7_fill_53178 4 none RJ7)  : ∀ (n : Nat) (x1_ : Int32) (x2_ : Int32) (x3_ : Int32) (σ : zSt) (H : Heap) (locs : List Loc) (ls : Array Slot), zJ D cy shC ad ln s σ H locs → lv_has ls 4 [(0, .ref (ad a0_)), (1, .int x1_), (2, .int x2_), (3, .int x3_)] → fJ7_fill_53178_b5 ln N M a0_  n x1_ x2_ x3_ σ = some o → W p l e (zRm (0)) s m args below meth c H locs 0 0 (zQv D cy shC ad ts ln below args s o) (F0 m 5 ls []) := by
  have hx := X.1
  have hb := X.2.1
  intro n
  induction n with
  | zero =>
    intro x1_ x2_ x3_ σ H locs ls J hl hf
    rw [fJ7_fill_53178_b5] at hf
    cases hf
  | succ n ih =>
    intro x1_ x2_ x3_ σ H locs ls J hl hf
    rw [fJ7_fill_53178_b5] at hf
    refine lv_iload_n hx hb dJ7_fill_53178_5 rfl (lv_at hl 2 rfl) ?_
    refine lv_iload_n hx hb dJ7_fill_53178_6 rfl (lv_at hl 3 rfl) ?_
    refine lv_icmp_ge hx hb dJ7_fill_53178_7 rfl (fun h => ?_) (fun h => ?_)
    · have hf := itp h hf
      exact zr_vret X J hf dJ7_fill_53178_20
    · have hf := itn h hf
      refine lv_aload_n hx hb dJ7_fill_53178_10 rfl (lv_at hl 0 rfl) ?_
      refine lv_iload_n hx hb dJ7_fill_53178_11 rfl (lv_at hl 2 rfl) ?_
      refine lv_iload_n hx hb dJ7_fill_53178_12 rfl (lv_at hl 1 rfl) ?_
      obtain ⟨hin, hf⟩ := itx hf
      refine as_J7_fill ha0_ X J hin dJ7_fill_53178_13 (fun σ3 H locs eq J => ?_)
      have hf := bnd_eq eq hf
      clear eq
      obtain ⟨x4, eq⟩ : ∃ z, z = x2_ + (1 : Int32) := ⟨_, rfl⟩
      have hf := bnd_eq eq hf
      refine lv_iinc hx hb dJ7_fill_53178_14 hl (k := 2) rfl (v := x4) (by rw [eq]; rfl) (by decide) rfl (fun ls hl => ?_)
      clear eq
      have hl : lv_has ls 4 [(2, .int x4), (0, .ref (ad a0_)), (1, .int x1_), (3, .int x3_)] := hl
      refine lv_goto hx hb dJ7_fill_53178_17 rfl ?_
      exact ih _ _ _ _ _ _ _ J (lv_sub hl [1, 2, 0, 3] rfl) hf
set_option maxHeartbeats 4000000 in
theorem tJ7_fill_53178 {a0_ : Nat} (ha0_ : a0_ = 26 ∨ a0_ = 30) {a1_ : Int32}  {σ u : zSt} {r : Unit} (hf : fJ7_fill_53178 ln N M a0_ a1_ σ = some (r, u)) : zMv l yJ7_fill_53178 cJ7_fill_53178 4 none (0) D cy shC ad ts ln [.ref (ad a0_), .int a1_] σ u := by
  refine zM_of (by decide) (Nat.le_of_ble_eq_true rfl) (fun p e s m args below meth c ls ha X J hl => ?_)
  have hx := X.1
  have hb := X.2.1
  have hl : lv_has ls 4 [(0, .ref (ad a0_)), (1, .int a1_)] := hl
  generalize s.heap = H at J ⊢
  generalize ([] : List Loc) = locs at J ⊢
  show W p l e (zRm (0)) s m args below meth c H locs 0 0 (zQv D cy shC ad ts ln below args s (r, u)) (F0 m 0 ls [])
  unfold fJ7_fill_53178 at hf
  refine lv_iconst (v := (0 : Int32)) hx hb dJ7_fill_53178_0 (by decide) ?_
  refine lv_topi (fun x1 eq => ?_)
  have hf := bnd_eq eq hf
  clear eq
  refine lv_istore_n hx hb dJ7_fill_53178_1 rfl hl (by decide) rfl (fun ls hl => ?_)
  have hl : lv_has ls 4 [(2, .int x1), (0, .ref (ad a0_)), (1, .int a1_)] := hl
  refine lv_aload_n hx hb dJ7_fill_53178_2 rfl (lv_at hl 1 rfl) ?_
  refine an_J7_fill ha0_ X J dJ7_fill_53178_3 ?_
  refine lv_topi (fun x2 eq => ?_)
  have hf := bnd_eq eq hf
  clear eq
  refine lv_istore_n hx hb dJ7_fill_53178_4 rfl hl (by decide) rfl (fun ls hl => ?_)
  have hl : lv_has ls 4 [(3, .int x2), (2, .int x1), (0, .ref (ad a0_)), (1, .int a1_)] := hl
  exact bJ7_fill_53178_5 ha0_ X  N _ _ _ _ _ _ _ J (lv_sub hl [2, 3, 1, 0] rfl) hf
set_option maxHeartbeats 4000000 in
theorem tX3_begin {a1_ : Nat} (ha1_ : a1_ = 9 ∨ a1_ = 10) {σ u : zSt} {r : Unit} (hf : fX3_begin ln N M a1_ σ = some (r, u)) : zMv l yX3_begin cX3_begin 2 none (1) D cy shC ad ts ln [.ref (ad 7), .ref (ad a1_)] σ u := by
  refine zM_of (by decide) (Nat.le_of_ble_eq_true rfl) (fun p e s m args below meth c ls ha X J hl => ?_)
  have hx := X.1
  have hb := X.2.1
  have hl : lv_has ls 2 [(0, .ref (ad 7)), (1, .ref (ad a1_))] := hl
  generalize s.heap = H at J ⊢
  generalize ([] : List Loc) = locs at J ⊢
  show W p l e (zRm (1)) s m args below meth c H locs 0 0 (zQv D cy shC ad ts ln below args s (r, u)) (F0 m 0 ls [])
  unfold fX3_begin at hf
  refine lv_aload_n hx hb dX3_begin_0 rfl (lv_at hl 0 rfl) ?_
  refine lv_aload_n hx hb dX3_begin_1 rfl (lv_at hl 1 rfl) ?_
  refine gf_X3_19 ha1_ X J dX3_begin_2 ?_
  refine pf_X3_25 X J dX3_begin_5 (fun σ1 H locs eq J => ?_)
  have hf := bnd_eq eq hf
  clear eq
  refine lv_aload_n hx hb dX3_begin_8 rfl (lv_at hl 0 rfl) ?_
  refine gf_X3_9 X J dX3_begin_9 ?_
  refine lv_iconst (v := (0 : Int32)) hx hb dX3_begin_12 (by decide) ?_
  obtain ⟨r2, σ3, hc, hf⟩ := obd_some hf
  refine zr_callSv (As := [.ref (ad 26), .int (0 : Int32)]) (rest := []) X J yy_J7_fill_53178 mw_methodLink_TinyCMachine_26_javautilArrays_fill_IIV (d := 0) (zR_ok (by omega) (by decide)) hl.1 rfl (Nat.le_of_ble_eq_true rfl) (tJ7_fill_53178 (by decide) hc) dX3_begin_13 (fun H locs J => ?_)
  refine lv_aload_n hx hb dX3_begin_16 rfl (lv_at hl 0 rfl) ?_
  refine lv_iconst (v := (0 : Int32)) hx hb dX3_begin_17 (by decide) ?_
  refine pf_X3_32 X J dX3_begin_18 (fun σ4 H locs eq J => ?_)
  have hf := bnd_eq eq hf
  clear eq
  refine lv_aload_n hx hb dX3_begin_21 rfl (lv_at hl 0 rfl) ?_
  refine lv_aload_n hx hb dX3_begin_22 rfl (lv_at hl 1 rfl) ?_
  refine gf_X3_36 ha1_ X J dX3_begin_23 ?_
  refine pf_X3_39 X J dX3_begin_26 (fun σ5 H locs eq J => ?_)
  have hf := bnd_eq eq hf
  clear eq
  refine lv_aload_n hx hb dX3_begin_29 rfl (lv_at hl 0 rfl) ?_
  refine lv_iconst (v := (0 : Int32)) hx hb dX3_begin_30 (by decide) ?_
  refine pf_X3_42 X J dX3_begin_31 (fun σ6 H locs eq J => ?_)
  have hf := bnd_eq eq hf
  clear eq
  refine lv_aload_n hx hb dX3_begin_34 rfl (lv_at hl 0 rfl) ?_
  refine lv_iconst (v := (0 : Int32)) hx hb dX3_begin_35 (by decide) ?_
  refine pf_X3_45 X J dX3_begin_36 (fun σ7 H locs eq J => ?_)
  have hf := bnd_eq eq hf
  clear eq
  refine lv_aload_n hx hb dX3_begin_39 rfl (lv_at hl 0 rfl) ?_
  refine lv_iconst (v := (0 : Int32)) hx hb dX3_begin_40 (by decide) ?_
  refine pf_X3_48 X J (by decide) dX3_begin_41 (fun σ8 H locs eq J => ?_)
  have hf := bnd_eq eq hf
  clear eq
  exact zr_vret X J hf dX3_begin_44
set_option maxHeartbeats 4000000 in
theorem tX10_pushItem {a1_ : Int32} {a2_ : Int32}  {σ u : zSt} {r : Unit} (hf : fX10_pushItem ln N M a1_ a2_ σ = some (r, u)) : zMv l yX10_pushItem cX10_pushItem 3 none (0) D cy shC ad ts ln [.ref (ad 8), .int a1_, .int a2_] σ u := by
  refine zM_of (by decide) (Nat.le_of_ble_eq_true rfl) (fun p e s m args below meth c ls ha X J hl => ?_)
  have hx := X.1
  have hb := X.2.1
  have hl : lv_has ls 3 [(0, .ref (ad 8)), (1, .int a1_), (2, .int a2_)] := hl
  generalize s.heap = H at J ⊢
  generalize ([] : List Loc) = locs at J ⊢
  show W p l e (zRm (0)) s m args below meth c H locs 0 0 (zQv D cy shC ad ts ln below args s (r, u)) (F0 m 0 ls [])
  unfold fX10_pushItem at hf
  refine lv_aload_n hx hb dX10_pushItem_0 rfl (lv_at hl 0 rfl) ?_
  refine gf_X10_59 X J dX10_pushItem_1 ?_
  refine lv_if_lt hx hb dX10_pushItem_4 rfl (fun h => ?_) (fun h => ?_)
  · have hf := itp h hf
    exact zr_vret X J hf dX10_pushItem_61
  · have hf := itn h hf
    refine lv_aload_n hx hb dX10_pushItem_7 rfl (lv_at hl 0 rfl) ?_
    refine gf_X10_59 X J dX10_pushItem_8 ?_
    refine lv_aload_n hx hb dX10_pushItem_11 rfl (lv_at hl 0 rfl) ?_
    refine gf_X10_23 X J dX10_pushItem_12 ?_
    refine an_X10_X10f3 X J dX10_pushItem_15 ?_
    refine lv_icmp_ge hx hb dX10_pushItem_16 rfl (fun h => ?_) (fun h => ?_)
    · have hf := itp h hf
      exact zr_vret X J hf dX10_pushItem_61
    · have hf := itn h hf
      refine lv_aload_n hx hb dX10_pushItem_19 rfl (lv_at hl 0 rfl) ?_
      refine gf_X10_59 X J dX10_pushItem_20 ?_
      refine lv_aload_n hx hb dX10_pushItem_23 rfl (lv_at hl 0 rfl) ?_
      refine gf_X10_26 X J dX10_pushItem_24 ?_
      refine an_X10_X10f4 X J dX10_pushItem_27 ?_
      refine lv_icmp_ge hx hb dX10_pushItem_28 rfl (fun h => ?_) (fun h => ?_)
      · have hf := itp h hf
        exact zr_vret X J hf dX10_pushItem_61
      · have hf := itn h hf
        refine lv_aload_n hx hb dX10_pushItem_31 rfl (lv_at hl 0 rfl) ?_
        refine gf_X10_23 X J dX10_pushItem_32 ?_
        refine lv_aload_n hx hb dX10_pushItem_35 rfl (lv_at hl 0 rfl) ?_
        refine gf_X10_59 X J dX10_pushItem_36 ?_
        refine lv_iload_n hx hb dX10_pushItem_39 rfl (lv_at hl 1 rfl) ?_
        obtain ⟨hin, hf⟩ := itx hf
        refine as_X10_X10f3 X J hin dX10_pushItem_40 (fun σ1 H locs eq J => ?_)
        have hf := bnd_eq eq hf
        clear eq
        refine lv_aload_n hx hb dX10_pushItem_41 rfl (lv_at hl 0 rfl) ?_
        refine gf_X10_26 X J dX10_pushItem_42 ?_
        refine lv_aload_n hx hb dX10_pushItem_45 rfl (lv_at hl 0 rfl) ?_
        refine gf_X10_59 X J dX10_pushItem_46 ?_
        refine lv_iload_n hx hb dX10_pushItem_49 rfl (lv_at hl 2 rfl) ?_
        obtain ⟨hin, hf⟩ := itx hf
        refine as_X10_X10f4 X J hin dX10_pushItem_50 (fun σ2 H locs eq J => ?_)
        have hf := bnd_eq eq hf
        clear eq
        refine lv_aload_n hx hb dX10_pushItem_51 rfl (lv_at hl 0 rfl) ?_
        refine lv_dup hx hb dX10_pushItem_52 rfl ?_
        refine gf_X10_59 X J dX10_pushItem_53 ?_
        refine lv_iconst (v := (1 : Int32)) hx hb dX10_pushItem_56 (by decide) ?_
        refine lv_iadd hx hb dX10_pushItem_57 ?_
        refine pf_X10_59 X J dX10_pushItem_58 (fun σ3 H locs eq J => ?_)
        have hf := bnd_eq eq hf
        clear eq
        exact zr_vret X J hf dX10_pushItem_61
set_option maxHeartbeats 4000000 in
theorem tX10_begin {a1_ : Nat} (ha1_ : a1_ = 9 ∨ a1_ = 10) {σ u : zSt} {r : Unit} (hf : fX10_begin ln N M a1_ σ = some (r, u)) : zMv l yX10_begin cX10_begin 2 none (1) D cy shC ad ts ln [.ref (ad 8), .ref (ad a1_)] σ u := by
  refine zM_of (by decide) (Nat.le_of_ble_eq_true rfl) (fun p e s m args below meth c ls ha X J hl => ?_)
  have hx := X.1
  have hb := X.2.1
  have hl : lv_has ls 2 [(0, .ref (ad 8)), (1, .ref (ad a1_))] := hl
  generalize s.heap = H at J ⊢
  generalize ([] : List Loc) = locs at J ⊢
  show W p l e (zRm (1)) s m args below meth c H locs 0 0 (zQv D cy shC ad ts ln below args s (r, u)) (F0 m 0 ls [])
  unfold fX10_begin at hf
  refine lv_aload_n hx hb dX10_begin_0 rfl (lv_at hl 0 rfl) ?_
  refine lv_aload_n hx hb dX10_begin_1 rfl (lv_at hl 1 rfl) ?_
  refine gf_X10_38 ha1_ X J dX10_begin_2 ?_
  refine pf_X10_44 X J dX10_begin_5 (fun σ1 H locs eq J => ?_)
  have hf := bnd_eq eq hf
  clear eq
  refine lv_aload_n hx hb dX10_begin_8 rfl (lv_at hl 0 rfl) ?_
  refine lv_aload_n hx hb dX10_begin_9 rfl (lv_at hl 1 rfl) ?_
  refine gf_X10_45 ha1_ X J dX10_begin_10 ?_
  refine pf_X10_47 X J dX10_begin_13 (fun σ2 H locs eq J => ?_)
  have hf := bnd_eq eq hf
  clear eq
  refine lv_aload_n hx hb dX10_begin_16 rfl (lv_at hl 0 rfl) ?_
  refine gf_X10_29 X J dX10_begin_17 ?_
  refine lv_iconst (v := (0 : Int32)) hx hb dX10_begin_20 (by decide) ?_
  obtain ⟨r3, σ4, hc, hf⟩ := obd_some hf
  refine zr_callSv (As := [.ref (ad 30), .int (0 : Int32)]) (rest := []) X J yy_J7_fill_53178 mw_methodLink_TinyCWalker_50_javautilArrays_fill_IIV (d := 0) (zR_ok (by omega) (by decide)) hl.1 rfl (Nat.le_of_ble_eq_true rfl) (tJ7_fill_53178 (by decide) hc) dX10_begin_21 (fun H locs J => ?_)
  refine lv_aload_n hx hb dX10_begin_24 rfl (lv_at hl 0 rfl) ?_
  refine lv_iconst (v := (0 : Int32)) hx hb dX10_begin_25 (by decide) ?_
  refine pf_X10_56 X J dX10_begin_26 (fun σ5 H locs eq J => ?_)
  have hf := bnd_eq eq hf
  clear eq
  refine lv_aload_n hx hb dX10_begin_29 rfl (lv_at hl 0 rfl) ?_
  refine lv_iconst (v := (0 : Int32)) hx hb dX10_begin_30 (by decide) ?_
  refine pf_X10_59 X J dX10_begin_31 (fun σ6 H locs eq J => ?_)
  have hf := bnd_eq eq hf
  clear eq
  refine lv_aload_n hx hb dX10_begin_34 rfl (lv_at hl 0 rfl) ?_
  refine lv_iconst (v := (0 : Int32)) hx hb dX10_begin_35 (by decide) ?_
  refine pf_X10_62 X J dX10_begin_36 (fun σ7 H locs eq J => ?_)
  have hf := bnd_eq eq hf
  clear eq
  refine lv_aload_n hx hb dX10_begin_39 rfl (lv_at hl 0 rfl) ?_
  refine lv_iconst (v := (0 : Int32)) hx hb dX10_begin_40 (by decide) ?_
  refine pf_X10_65 X J dX10_begin_41 (fun σ8 H locs eq J => ?_)
  have hf := bnd_eq eq hf
  clear eq
  refine lv_aload_n hx hb dX10_begin_44 rfl (lv_at hl 0 rfl) ?_
  refine lv_iconst (v := (0 : Int32)) hx hb dX10_begin_45 (by decide) ?_
  refine pf_X10_68 X J dX10_begin_46 (fun σ9 H locs eq J => ?_)
  have hf := bnd_eq eq hf
  clear eq
  refine lv_aload_n hx hb dX10_begin_49 rfl (lv_at hl 0 rfl) ?_
  refine lv_iconst (v := (0 : Int32)) hx hb dX10_begin_50 (by decide) ?_
  refine pf_X10_71 X J (by decide) dX10_begin_51 (fun σ10 H locs eq J => ?_)
  have hf := bnd_eq eq hf
  clear eq
  refine lv_aload_n hx hb dX10_begin_54 rfl (lv_at hl 0 rfl) ?_
  refine lv_iconst (v := (3 : Int32)) hx hb dX10_begin_55 (by decide) ?_
  refine lv_aload_n hx hb dX10_begin_56 rfl (lv_at hl 1 rfl) ?_
  refine gf_X10_75 ha1_ X J dX10_begin_57 ?_
  obtain ⟨r11, σ12, hc, hf⟩ := obd_some hf
  refine zr_callv (As := [.int (3 : Int32), .int (zI σ10 a1_ 3)]) (rest := []) X J 8 ho_C_X10.1 ho_C_X10.2.1 ho_C_X10.2.2 yy_X10_pushItem mw_methodLink_TinyCWalker_78_TinyCWalker_pushItem_IIV (d := 0) (zR_ok (by omega) (by decide)) hl.1 rfl (Nat.le_of_ble_eq_true rfl) (tX10_pushItem  hc) dX10_begin_60 (fun H locs J => ?_)
  exact zr_vret X J hf dX10_begin_63
set_option maxHeartbeats 4000000 in
theorem tX7_put {a1_ : Int32}  {σ u : zSt} {r : Int32} (hf : fX7_put ln N M a1_ σ = some (r, u)) : zMi l yX7_put cX7_put 2 (some .boolean) (0) D cy shC ad ts ln [.ref (ad 1), .int a1_] σ r u := by
  refine zM_of (by decide) (Nat.le_of_ble_eq_true rfl) (fun p e s m args below meth c ls ha X J hl => ?_)
  have hx := X.1
  have hb := X.2.1
  have hl : lv_has ls 2 [(0, .ref (ad 1)), (1, .int a1_)] := hl
  generalize s.heap = H at J ⊢
  generalize ([] : List Loc) = locs at J ⊢
  show W p l e (zRm (0)) s m args below meth c H locs 0 0 (zQi D cy shC ad ts ln below args s (r, u)) (F0 m 0 ls [])
  unfold fX7_put at hf
  refine lv_aload_n hx hb dX7_put_0 rfl (lv_at hl 0 rfl) ?_
  refine gf_X7_15 X J dX7_put_1 ?_
  refine lv_aload_n hx hb dX7_put_4 rfl (lv_at hl 0 rfl) ?_
  refine gf_X7_9 X J dX7_put_5 ?_
  refine an_X7_X7f0 X J dX7_put_8 ?_
  refine lv_icmp_lt hx hb dX7_put_9 rfl (fun h => ?_) (fun h => ?_)
  · have hf := itp h hf
    refine lv_aload_n hx hb dX7_put_14 rfl (lv_at hl 0 rfl) ?_
    refine gf_X7_9 X J dX7_put_15 ?_
    refine lv_aload_n hx hb dX7_put_18 rfl (lv_at hl 0 rfl) ?_
    refine gf_X7_15 X J dX7_put_19 ?_
    refine lv_iload_n hx hb dX7_put_22 rfl (lv_at hl 1 rfl) ?_
    obtain ⟨hin, hf⟩ := itx hf
    refine as_X7_X7f0 X J hin dX7_put_23 (fun σ1 H locs eq J => ?_)
    have hf := bnd_eq eq hf
    clear eq
    refine lv_aload_n hx hb dX7_put_24 rfl (lv_at hl 0 rfl) ?_
    refine lv_dup hx hb dX7_put_25 rfl ?_
    refine gf_X7_15 X J dX7_put_26 ?_
    refine lv_iconst (v := (1 : Int32)) hx hb dX7_put_29 (by decide) ?_
    refine lv_iadd hx hb dX7_put_30 ?_
    refine pf_X7_15 X J dX7_put_31 (fun σ2 H locs eq J => ?_)
    have hf := bnd_eq eq hf
    clear eq
    refine lv_iconst (v := (1 : Int32)) hx hb dX7_put_34 (by decide) ?_
    exact zr_zretc X J (by decide) hf dX7_put_35
  · have hf := itn h hf
    refine lv_iconst (v := (0 : Int32)) hx hb dX7_put_12 (by decide) ?_
    exact zr_zretc X J (by decide) hf dX7_put_13
set_option maxHeartbeats 4000000 in
theorem tX11_feed {a1_ : Int32}  {σ u : zSt} {r : Int32} (hf : fX11_feed ln N M a1_ σ = some (r, u)) : zMi l yX11_feed cX11_feed 2 (some .int) (1) D cy shC ad ts ln [.ref (ad 0), .int a1_] σ r u := by
  refine zM_of (by decide) (Nat.le_of_ble_eq_true rfl) (fun p e s m args below meth c ls ha X J hl => ?_)
  have hx := X.1
  have hb := X.2.1
  have hl : lv_has ls 2 [(0, .ref (ad 0)), (1, .int a1_)] := hl
  generalize s.heap = H at J ⊢
  generalize ([] : List Loc) = locs at J ⊢
  show W p l e (zRm (1)) s m args below meth c H locs 0 0 (zQi D cy shC ad ts ln below args s (r, u)) (F0 m 0 ls [])
  unfold fX11_feed at hf
  refine lv_aload_n hx hb dX11_feed_0 rfl (lv_at hl 0 rfl) ?_
  refine gf_X11_18 X J dX11_feed_1 ?_
  refine lv_iload_n hx hb dX11_feed_4 rfl (lv_at hl 1 rfl) ?_
  obtain ⟨r1, σ2, hc, hf⟩ := obd_some hf
  refine zr_callNi (As := [.int a1_]) (rest := []) X J 1 ho_C_X7.1 ho_C_X7.2.1 ho_C_X7.2.2 yy_X7_put mw_methodLinkNest_TinyC_88_TinyCScan_put_IZ_TinyC (d := 0) (zR_ok (by omega) (by decide)) hl.1 rfl (Nat.le_of_ble_eq_true rfl) (tX7_put  hc) dX11_feed_5 (fun H locs J => ?_)
  refine lv_if_eq hx hb dX11_feed_8 rfl (fun h => ?_) (fun h => ?_)
  · have hf := itp h hf
    refine lv_iconst (v := (1 : Int32)) hx hb dX11_feed_15 (by decide) ?_
    exact zr_iret X J hf dX11_feed_16
  · have hf := itn h hf
    refine lv_iconst (v := (0 : Int32)) hx hb dX11_feed_11 (by decide) ?_
    refine lv_goto hx hb dX11_feed_12 rfl ?_
    exact zr_iret X J hf dX11_feed_16
set_option maxHeartbeats 4000000 in
theorem tX5_clear {q_ : Nat} (hq_ : q_ = 9 ∨ q_ = 10)   {σ u : zSt} {r : Unit} (hf : fX5_clear ln N M q_  σ = some (r, u)) : zMv l yX5_clear cX5_clear 1 none (0) D cy shC ad ts ln [.ref (ad q_)] σ u := by
  refine zM_of (by decide) (Nat.le_of_ble_eq_true rfl) (fun p e s m args below meth c ls ha X J hl => ?_)
  have hx := X.1
  have hb := X.2.1
  have hl : lv_has ls 1 [(0, .ref (ad q_))] := hl
  generalize s.heap = H at J ⊢
  generalize ([] : List Loc) = locs at J ⊢
  show W p l e (zRm (0)) s m args below meth c H locs 0 0 (zQv D cy shC ad ts ln below args s (r, u)) (F0 m 0 ls [])
  unfold fX5_clear at hf
  refine lv_aload_n hx hb dX5_clear_0 rfl (lv_at hl 0 rfl) ?_
  refine gf_X5_12 hq_ X J dX5_clear_1 ?_
  refine lv_iconst (v := (0 : Int32)) hx hb dX5_clear_4 (by decide) ?_
  refine pf_X5_29 (by omega) X J dX5_clear_5 (fun σ1 H locs eq J => ?_)
  have hf := bnd_eq eq hf
  clear eq
  refine lv_aload_n hx hb dX5_clear_8 rfl (lv_at hl 0 rfl) ?_
  refine gf_X5_21 hq_ X J dX5_clear_9 ?_
  refine lv_iconst (v := (0 : Int32)) hx hb dX5_clear_12 (by decide) ?_
  refine pf_X5_32 (by omega) X J dX5_clear_13 (fun σ2 H locs eq J => ?_)
  have hf := bnd_eq eq hf
  clear eq
  refine lv_aload_n hx hb dX5_clear_16 rfl (lv_at hl 0 rfl) ?_
  refine lv_iconst (v := (0 : Int32)) hx hb dX5_clear_17 (by decide) ?_
  refine pf_X5_33 hq_ X J dX5_clear_18 (fun σ3 H locs eq J => ?_)
  have hf := bnd_eq eq hf
  clear eq
  refine lv_aload_n hx hb dX5_clear_21 rfl (lv_at hl 0 rfl) ?_
  refine lv_iconst (v := (-1 : Int32)) hx hb dX5_clear_22 (by decide) ?_
  refine pf_X5_25 hq_ X J dX5_clear_23 (fun σ4 H locs eq J => ?_)
  have hf := bnd_eq eq hf
  clear eq
  refine lv_aload_n hx hb dX5_clear_26 rfl (lv_at hl 0 rfl) ?_
  refine lv_iconst (v := (0 : Int32)) hx hb dX5_clear_27 (by decide) ?_
  refine pf_X5_36 hq_ X J (by decide) dX5_clear_28 (fun σ5 H locs eq J => ?_)
  have hf := bnd_eq eq hf
  clear eq
  exact zr_vret X J hf dX5_clear_31
set_option maxHeartbeats 4000000 in
theorem tX4_cutTo {a1_ : Int32}  {σ u : zSt} {r : Unit} (hf : fX4_cutTo ln N M a1_ σ = some (r, u)) : zMv l yX4_cutTo cX4_cutTo 2 none (1) D cy shC ad ts ln [.ref (ad 4), .int a1_] σ u := by
  refine zM_of (by decide) (Nat.le_of_ble_eq_true rfl) (fun p e s m args below meth c ls ha X J hl => ?_)
  have hx := X.1
  have hb := X.2.1
  have hl : lv_has ls 2 [(0, .ref (ad 4)), (1, .int a1_)] := hl
  generalize s.heap = H at J ⊢
  generalize ([] : List Loc) = locs at J ⊢
  show W p l e (zRm (1)) s m args below meth c H locs 0 0 (zQv D cy shC ad ts ln below args s (r, u)) (F0 m 0 ls [])
  unfold fX4_cutTo at hf
  refine lv_aload_n hx hb dX4_cutTo_0 rfl (lv_at hl 0 rfl) ?_
  refine lv_iconst (v := (0 : Int32)) hx hb dX4_cutTo_1 (by decide) ?_
  refine lv_aload_n hx hb dX4_cutTo_2 rfl (lv_at hl 0 rfl) ?_
  refine gf_X4_26 X J dX4_cutTo_3 ?_
  refine lv_iload_n hx hb dX4_cutTo_6 rfl (lv_at hl 1 rfl) ?_
  refine va_mmin (rest := [.int (0 : Int32), .ref (ad 4)]) hx hb (X.2.2.1.trans hl.1.symm) X.2.2.2.1 (X.2.2.2.2.1 _ mw_methodLink_TinyCNames_30_javalangMath_min_III) (X.2.2.2.2.1 _ mw_static_javalangMath_min_III) (X.2.2.2.2.1 _ mw_initialized_javalangMath) (X.2.2.2.2.1 _ mw_code_javalangMath_min_III) (zR_1a (by omega)) (zR_1b (by omega) (Nat.le_of_ble_eq_true rfl)) (Nat.zero_le _) (Nat.zero_le _) dX4_cutTo_7 ?_
  refine va_mmax (rest := [.ref (ad 4)]) hx hb (X.2.2.1.trans hl.1.symm) X.2.2.2.1 (X.2.2.2.2.1 _ mw_methodLink_TinyCNames_36_javalangMath_max_III) (X.2.2.2.2.1 _ mw_static_javalangMath_max_III) (X.2.2.2.2.1 _ mw_initialized_javalangMath) (X.2.2.2.2.1 _ mw_code_javalangMath_max_III) (zR_1a (by omega)) (zR_1b (by omega) (Nat.le_of_ble_eq_true rfl)) (Nat.zero_le _) (Nat.zero_le _) dX4_cutTo_10 ?_
  refine pf_X4_26 X J dX4_cutTo_13 (fun σ1 H locs eq J => ?_)
  have hf := bnd_eq eq hf
  clear eq
  exact zr_vret X J hf dX4_cutTo_16
set_option maxHeartbeats 4000000 in
theorem tX1_begin   {σ u : zSt} {r : Unit} (hf : fX1_begin ln N M  σ = some (r, u)) : zMv l yX1_begin cX1_begin 1 none (2) D cy shC ad ts ln [.ref (ad 3)] σ u := by
  refine zM_of (by decide) (Nat.le_of_ble_eq_true rfl) (fun p e s m args below meth c ls ha X J hl => ?_)
  have hx := X.1
  have hb := X.2.1
  have hl : lv_has ls 1 [(0, .ref (ad 3))] := hl
  generalize s.heap = H at J ⊢
  generalize ([] : List Loc) = locs at J ⊢
  show W p l e (zRm (2)) s m args below meth c H locs 0 0 (zQv D cy shC ad ts ln below args s (r, u)) (F0 m 0 ls [])
  unfold fX1_begin at hf
  refine lv_aload_n hx hb dX1_begin_0 rfl (lv_at hl 0 rfl) ?_
  refine gf_X1_15 X J dX1_begin_1 ?_
  refine lv_iconst (v := (0 : Int32)) hx hb dX1_begin_4 (by decide) ?_
  obtain ⟨r1, σ2, hc, hf⟩ := obd_some hf
  refine zr_callNv (As := [.int (0 : Int32)]) (rest := []) X J 4 ho_C_X4.1 ho_C_X4.2.1 ho_C_X4.2.2 yy_X4_cutTo mw_methodLinkNest_TinyCDesk_23_TinyCNames_cutTo_IV_TinyC (d := 1) (zR_ok (by omega) (by decide)) hl.1 rfl (Nat.le_of_ble_eq_true rfl) (tX4_cutTo  hc) dX1_begin_5 (fun H locs J => ?_)
  refine lv_aload_n hx hb dX1_begin_8 rfl (lv_at hl 0 rfl) ?_
  refine lv_aload_n hx hb dX1_begin_9 rfl (lv_at hl 0 rfl) ?_
  refine gf_X1_19 X J dX1_begin_10 ?_
  refine pf_X1_29 X J dX1_begin_13 (fun σ3 H locs eq J => ?_)
  have hf := bnd_eq eq hf
  clear eq
  refine lv_aload_n hx hb dX1_begin_16 rfl (lv_at hl 0 rfl) ?_
  refine lv_iconst (v := (0 : Int32)) hx hb dX1_begin_17 (by decide) ?_
  refine pf_X1_32 X J dX1_begin_18 (fun σ4 H locs eq J => ?_)
  have hf := bnd_eq eq hf
  clear eq
  refine lv_aload_n hx hb dX1_begin_21 rfl (lv_at hl 0 rfl) ?_
  refine lv_iconst (v := (0 : Int32)) hx hb dX1_begin_22 (by decide) ?_
  refine pf_X1_35 X J dX1_begin_23 (fun σ5 H locs eq J => ?_)
  have hf := bnd_eq eq hf
  clear eq
  exact zr_vret X J hf dX1_begin_26
set_option maxHeartbeats 4000000 in
theorem tX2_begin {a1_ : Nat} (ha1_ : a1_ = 9 ∨ a1_ = 10) {σ u : zSt} {r : Unit} (hf : fX2_begin ln N M a1_ σ = some (r, u)) : zMv l yX2_begin cX2_begin 2 none (0) D cy shC ad ts ln [.ref (ad 5), .ref (ad a1_)] σ u := by
  refine zM_of (by decide) (Nat.le_of_ble_eq_true rfl) (fun p e s m args below meth c ls ha X J hl => ?_)
  have hx := X.1
  have hb := X.2.1
  have hl : lv_has ls 2 [(0, .ref (ad 5)), (1, .ref (ad a1_))] := hl
  generalize s.heap = H at J ⊢
  generalize ([] : List Loc) = locs at J ⊢
  show W p l e (zRm (0)) s m args below meth c H locs 0 0 (zQv D cy shC ad ts ln below args s (r, u)) (F0 m 0 ls [])
  unfold fX2_begin at hf
  refine lv_aload_n hx hb dX2_begin_0 rfl (lv_at hl 0 rfl) ?_
  refine lv_aload_n hx hb dX2_begin_1 rfl (lv_at hl 1 rfl) ?_
  refine gf_X2_37 ha1_ X J dX2_begin_2 ?_
  refine pf_X2_43 X J dX2_begin_5 (fun σ1 H locs eq J => ?_)
  have hf := bnd_eq eq hf
  clear eq
  refine lv_aload_n hx hb dX2_begin_8 rfl (lv_at hl 0 rfl) ?_
  refine lv_aload_n hx hb dX2_begin_9 rfl (lv_at hl 1 rfl) ?_
  refine gf_X2_44 ha1_ X J dX2_begin_10 ?_
  refine pf_X2_48 X J dX2_begin_13 (fun σ2 H locs eq J => ?_)
  have hf := bnd_eq eq hf
  clear eq
  refine lv_aload_n hx hb dX2_begin_16 rfl (lv_at hl 0 rfl) ?_
  refine lv_iconst (v := (0 : Int32)) hx hb dX2_begin_17 (by decide) ?_
  refine pf_X2_49 X J dX2_begin_18 (fun σ3 H locs eq J => ?_)
  have hf := bnd_eq eq hf
  clear eq
  refine lv_aload_n hx hb dX2_begin_21 rfl (lv_at hl 0 rfl) ?_
  refine lv_iconst (v := (-1 : Int32)) hx hb dX2_begin_22 (by decide) ?_
  refine pf_X2_53 X J dX2_begin_23 (fun σ4 H locs eq J => ?_)
  have hf := bnd_eq eq hf
  clear eq
  exact zr_vret X J hf dX2_begin_26
set_option maxHeartbeats 4000000 in
theorem bX7_skipBlanks_39 {o : Unit × zSt} (X : zX p s m args meth c D cy shC ad ts cX7_skipBlanks 1 none RX7) {k0 : zSt → Option (Unit × zSt)} (hk0 : ∀  (σ : zSt) (H : Heap) (locs : List Loc) (ls : Array Slot), zJ D cy shC ad ln s σ H locs → lv_has ls 1 [(0, .ref (ad 1))] → k0  σ = some o → W p l e (zRm (0)) s m args below meth c H locs 0 0 (zQv D cy shC ad ts ln below args s o) (F0 m 0 ls []))   {σ : zSt} {H : Heap} {locs : List Loc} {ls : Array Slot} (J : zJ D cy shC ad ln s σ H locs) (hl : lv_has ls 1 [(0, .ref (ad 1))]) (hf : fX7_skipBlanks_b39 ln N M k0  σ = some o) : W p l e (zRm (0)) s m args below meth c H locs 0 0 (zQv D cy shC ad ts ln below args s o) (F0 m 39 ls []) := by
  have hx := X.1
  have hb := X.2.1
  unfold fX7_skipBlanks_b39 at hf
  refine lv_aload_n hx hb dX7_skipBlanks_39 rfl (lv_at hl 0 rfl) ?_
  refine lv_dup hx hb dX7_skipBlanks_40 rfl ?_
  refine gf_X7_22 X J dX7_skipBlanks_41 ?_
  refine lv_iconst (v := (1 : Int32)) hx hb dX7_skipBlanks_44 (by decide) ?_
  refine lv_iadd hx hb dX7_skipBlanks_45 ?_
  refine pf_X7_22 X J dX7_skipBlanks_46 (fun σ1 H locs eq J => ?_)
  have hf := bnd_eq eq hf
  clear eq
  refine lv_goto hx hb dX7_skipBlanks_49 rfl ?_
  exact hk0 _ _ _ _ J (lv_sub hl [0] rfl) hf
set_option maxHeartbeats 4000000 in
theorem bX7_skipBlanks_0 {o : Unit × zSt} (X : zX p s m args meth c D cy shC ad ts cX7_skipBlanks 1 none RX7)  : ∀ (n : Nat)  (σ : zSt) (H : Heap) (locs : List Loc) (ls : Array Slot), zJ D cy shC ad ln s σ H locs → lv_has ls 1 [(0, .ref (ad 1))] → fX7_skipBlanks_b0 ln N M  n  σ = some o → W p l e (zRm (0)) s m args below meth c H locs 0 0 (zQv D cy shC ad ts ln below args s o) (F0 m 0 ls []) := by
  have hx := X.1
  have hb := X.2.1
  intro n
  induction n with
  | zero =>
    intro  σ H locs ls J hl hf
    rw [fX7_skipBlanks_b0] at hf
    cases hf
  | succ n ih =>
    intro  σ H locs ls J hl hf
    rw [fX7_skipBlanks_b0] at hf
    refine lv_aload_n hx hb dX7_skipBlanks_0 rfl (lv_at hl 0 rfl) ?_
    refine gf_X7_22 X J dX7_skipBlanks_1 ?_
    refine lv_aload_n hx hb dX7_skipBlanks_4 rfl (lv_at hl 0 rfl) ?_
    refine gf_X7_15 X J dX7_skipBlanks_5 ?_
    refine lv_icmp_ge hx hb dX7_skipBlanks_8 rfl (fun h => ?_) (fun h => ?_)
    · have hf := itp h hf
      exact zr_vret X J hf dX7_skipBlanks_52
    · have hf := itn h hf
      refine lv_aload_n hx hb dX7_skipBlanks_11 rfl (lv_at hl 0 rfl) ?_
      refine gf_X7_9 X J dX7_skipBlanks_12 ?_
      refine lv_aload_n hx hb dX7_skipBlanks_15 rfl (lv_at hl 0 rfl) ?_
      refine gf_X7_22 X J dX7_skipBlanks_16 ?_
      obtain ⟨hin, hf⟩ := itx hf
      refine al_X7_X7f0 X J hin dX7_skipBlanks_19 ?_
      refine lv_bipush (v := (32 : Int32)) hx hb dX7_skipBlanks_20 (by decide) ?_
      refine lv_icmp_eq hx hb dX7_skipBlanks_22 rfl (fun h => ?_) (fun h => ?_)
      · have hf := itp h hf
        exact bX7_skipBlanks_39 X ih  J (lv_sub hl [0] rfl) hf
      · have hf := itn h hf
        refine lv_aload_n hx hb dX7_skipBlanks_25 rfl (lv_at hl 0 rfl) ?_
        refine gf_X7_9 X J dX7_skipBlanks_26 ?_
        refine lv_aload_n hx hb dX7_skipBlanks_29 rfl (lv_at hl 0 rfl) ?_
        refine gf_X7_22 X J dX7_skipBlanks_30 ?_
        obtain ⟨hin, hf⟩ := itx hf
        refine al_X7_X7f0 X J hin dX7_skipBlanks_33 ?_
        refine lv_bipush (v := (10 : Int32)) hx hb dX7_skipBlanks_34 (by decide) ?_
        refine lv_icmp_ne hx hb dX7_skipBlanks_36 rfl (fun h => ?_) (fun h => ?_)
        · have hf := itn h hf
          exact zr_vret X J hf dX7_skipBlanks_52
        · have hf := itp h hf
          exact bX7_skipBlanks_39 X ih  J (lv_sub hl [0] rfl) hf
set_option maxHeartbeats 4000000 in
theorem tX7_skipBlanks   {σ u : zSt} {r : Unit} (hf : fX7_skipBlanks ln N M  σ = some (r, u)) : zMv l yX7_skipBlanks cX7_skipBlanks 1 none (0) D cy shC ad ts ln [.ref (ad 1)] σ u := by
  refine zM_of (by decide) (Nat.le_of_ble_eq_true rfl) (fun p e s m args below meth c ls ha X J hl => ?_)
  have hx := X.1
  have hb := X.2.1
  have hl : lv_has ls 1 [(0, .ref (ad 1))] := hl
  generalize s.heap = H at J ⊢
  generalize ([] : List Loc) = locs at J ⊢
  show W p l e (zRm (0)) s m args below meth c H locs 0 0 (zQv D cy shC ad ts ln below args s (r, u)) (F0 m 0 ls [])
  unfold fX7_skipBlanks at hf
  exact bX7_skipBlanks_0 X  N _ _ _ _ J (lv_sub hl [0] rfl) hf
set_option maxHeartbeats 4000000 in
theorem tX7_isDigit {a0_ : Int32}  {σ u : zSt} {r : Int32} (hf : fX7_isDigit ln N M a0_ σ = some (r, u)) : zMi l yX7_isDigit cX7_isDigit 1 (some .boolean) (0) D cy shC ad ts ln [.int a0_] σ r u := by
  refine zM_of (by decide) (Nat.le_of_ble_eq_true rfl) (fun p e s m args below meth c ls ha X J hl => ?_)
  have hx := X.1
  have hb := X.2.1
  have hl : lv_has ls 1 [(0, .int a0_)] := hl
  generalize s.heap = H at J ⊢
  generalize ([] : List Loc) = locs at J ⊢
  show W p l e (zRm (0)) s m args below meth c H locs 0 0 (zQi D cy shC ad ts ln below args s (r, u)) (F0 m 0 ls [])
  unfold fX7_isDigit at hf
  refine lv_iload_n hx hb dX7_isDigit_0 rfl (lv_at hl 0 rfl) ?_
  refine lv_bipush (v := (48 : Int32)) hx hb dX7_isDigit_1 (by decide) ?_
  refine lv_icmp_lt hx hb dX7_isDigit_3 rfl (fun h => ?_) (fun h => ?_)
  · have hf := itp h hf
    refine lv_iconst (v := (0 : Int32)) hx hb dX7_isDigit_16 (by decide) ?_
    exact zr_zretc X J (by decide) hf dX7_isDigit_17
  · have hf := itn h hf
    refine lv_iload_n hx hb dX7_isDigit_6 rfl (lv_at hl 0 rfl) ?_
    refine lv_bipush (v := (57 : Int32)) hx hb dX7_isDigit_7 (by decide) ?_
    refine lv_icmp_gt hx hb dX7_isDigit_9 rfl (fun h => ?_) (fun h => ?_)
    · have hf := itp h hf
      refine lv_iconst (v := (0 : Int32)) hx hb dX7_isDigit_16 (by decide) ?_
      exact zr_zretc X J (by decide) hf dX7_isDigit_17
    · have hf := itn h hf
      refine lv_iconst (v := (1 : Int32)) hx hb dX7_isDigit_12 (by decide) ?_
      refine lv_goto hx hb dX7_isDigit_13 rfl ?_
      exact zr_zretc X J (by decide) hf dX7_isDigit_17
set_option maxHeartbeats 4000000 in
theorem bX7_comeNumber_97 {o : Int32 × zSt} (X : zX p s m args meth c D cy shC ad ts cX7_comeNumber 1 (some .int) RX7)    {σ : zSt} {H : Heap} {locs : List Loc} {ls : Array Slot} (J : zJ D cy shC ad ln s σ H locs) (hl : lv_has ls 1 [(0, .ref (ad 1))]) (hf : fX7_comeNumber_b97 ln N M   σ = some o) : W p l e (zRm (0)) s m args below meth c H locs 0 0 (zQi D cy shC ad ts ln below args s o) (F0 m 97 ls []) := by
  have hx := X.1
  have hb := X.2.1
  unfold fX7_comeNumber_b97 at hf
  refine lv_aload_n hx hb dX7_comeNumber_97 rfl (lv_at hl 0 rfl) ?_
  refine gf_X7_22 X J dX7_comeNumber_98 ?_
  refine lv_aload_n hx hb dX7_comeNumber_101 rfl (lv_at hl 0 rfl) ?_
  refine gf_X7_31 X J dX7_comeNumber_102 ?_
  refine lv_isub hx hb dX7_comeNumber_105 ?_
  refine lv_bipush (v := (10 : Int32)) hx hb dX7_comeNumber_106 (by decide) ?_
  refine lv_icmp_le hx hb dX7_comeNumber_108 rfl (fun h => ?_) (fun h => ?_)
  · have hf := itp h hf
    refine lv_bipush (v := (41 : Int32)) hx hb dX7_comeNumber_115 (by decide) ?_
    exact zr_iret X J hf dX7_comeNumber_117
  · have hf := itn h hf
    refine lv_iconst (v := (-1 : Int32)) hx hb dX7_comeNumber_111 (by decide) ?_
    refine lv_goto hx hb dX7_comeNumber_112 rfl ?_
    exact zr_iret X J hf dX7_comeNumber_117
set_option maxHeartbeats 4000000 in
theorem bX7_comeNumber_84 {o : Int32 × zSt} (X : zX p s m args meth c D cy shC ad ts cX7_comeNumber 1 (some .int) RX7) {k5 : zSt → Option (Int32 × zSt)} (hk5 : ∀  (σ : zSt) (H : Heap) (locs : List Loc) (ls : Array Slot), zJ D cy shC ad ln s σ H locs → lv_has ls 1 [(0, .ref (ad 1))] → k5  σ = some o → W p l e (zRm (0)) s m args below meth c H locs 0 0 (zQi D cy shC ad ts ln below args s o) (F0 m 5 ls []))   {σ : zSt} {H : Heap} {locs : List Loc} {ls : Array Slot} (J : zJ D cy shC ad ln s σ H locs) (hl : lv_has ls 1 [(0, .ref (ad 1))]) (hf : fX7_comeNumber_b84 ln N M k5  σ = some o) : W p l e (zRm (0)) s m args below meth c H locs 0 0 (zQi D cy shC ad ts ln below args s o) (F0 m 84 ls []) := by
  have hx := X.1
  have hb := X.2.1
  unfold fX7_comeNumber_b84 at hf
  refine lv_aload_n hx hb dX7_comeNumber_84 rfl (lv_at hl 0 rfl) ?_
  refine lv_dup hx hb dX7_comeNumber_85 rfl ?_
  refine gf_X7_22 X J dX7_comeNumber_86 ?_
  refine lv_iconst (v := (1 : Int32)) hx hb dX7_comeNumber_89 (by decide) ?_
  refine lv_iadd hx hb dX7_comeNumber_90 ?_
  refine pf_X7_22 X J dX7_comeNumber_91 (fun σ2 H locs eq J => ?_)
  have hf := bnd_eq eq hf
  clear eq
  refine lv_goto hx hb dX7_comeNumber_94 rfl ?_
  exact hk5 _ _ _ _ J (lv_sub hl [0] rfl) hf
set_option maxHeartbeats 4000000 in
theorem bX7_comeNumber_5 {o : Int32 × zSt} (X : zX p s m args meth c D cy shC ad ts cX7_comeNumber 1 (some .int) RX7)  : ∀ (n : Nat)  (σ : zSt) (H : Heap) (locs : List Loc) (ls : Array Slot), zJ D cy shC ad ln s σ H locs → lv_has ls 1 [(0, .ref (ad 1))] → fX7_comeNumber_b5 ln N M  n  σ = some o → W p l e (zRm (0)) s m args below meth c H locs 0 0 (zQi D cy shC ad ts ln below args s o) (F0 m 5 ls []) := by
  have hx := X.1
  have hb := X.2.1
  intro n
  induction n with
  | zero =>
    intro  σ H locs ls J hl hf
    rw [fX7_comeNumber_b5] at hf
    cases hf
  | succ n ih =>
    intro  σ H locs ls J hl hf
    rw [fX7_comeNumber_b5] at hf
    refine lv_aload_n hx hb dX7_comeNumber_5 rfl (lv_at hl 0 rfl) ?_
    refine gf_X7_22 X J dX7_comeNumber_6 ?_
    refine lv_aload_n hx hb dX7_comeNumber_9 rfl (lv_at hl 0 rfl) ?_
    refine gf_X7_15 X J dX7_comeNumber_10 ?_
    refine lv_icmp_ge hx hb dX7_comeNumber_13 rfl (fun h => ?_) (fun h => ?_)
    · have hf := itp h hf
      exact bX7_comeNumber_97 X   J (lv_sub hl [0] rfl) hf
    · have hf := itn h hf
      refine lv_aload_n hx hb dX7_comeNumber_16 rfl (lv_at hl 0 rfl) ?_
      refine gf_X7_9 X J dX7_comeNumber_17 ?_
      refine lv_aload_n hx hb dX7_comeNumber_20 rfl (lv_at hl 0 rfl) ?_
      refine gf_X7_22 X J dX7_comeNumber_21 ?_
      obtain ⟨hin, hf⟩ := itx hf
      refine al_X7_X7f0 X J hin dX7_comeNumber_24 ?_
      refine lv_bipush (v := (48 : Int32)) hx hb dX7_comeNumber_25 (by decide) ?_
      refine lv_icmp_lt hx hb dX7_comeNumber_27 rfl (fun h => ?_) (fun h => ?_)
      · have hf := itp h hf
        exact bX7_comeNumber_97 X   J (lv_sub hl [0] rfl) hf
      · have hf := itn h hf
        refine lv_aload_n hx hb dX7_comeNumber_30 rfl (lv_at hl 0 rfl) ?_
        refine gf_X7_9 X J dX7_comeNumber_31 ?_
        refine lv_aload_n hx hb dX7_comeNumber_34 rfl (lv_at hl 0 rfl) ?_
        refine gf_X7_22 X J dX7_comeNumber_35 ?_
        obtain ⟨hin, hf⟩ := itx hf
        refine al_X7_X7f0 X J hin dX7_comeNumber_38 ?_
        refine lv_bipush (v := (57 : Int32)) hx hb dX7_comeNumber_39 (by decide) ?_
        refine lv_icmp_gt hx hb dX7_comeNumber_41 rfl (fun h => ?_) (fun h => ?_)
        · have hf := itp h hf
          exact bX7_comeNumber_97 X   J (lv_sub hl [0] rfl) hf
        · have hf := itn h hf
          refine lv_aload_n hx hb dX7_comeNumber_44 rfl (lv_at hl 0 rfl) ?_
          refine gf_X7_22 X J dX7_comeNumber_45 ?_
          refine lv_aload_n hx hb dX7_comeNumber_48 rfl (lv_at hl 0 rfl) ?_
          refine gf_X7_31 X J dX7_comeNumber_49 ?_
          refine lv_isub hx hb dX7_comeNumber_52 ?_
          refine lv_bipush (v := (10 : Int32)) hx hb dX7_comeNumber_53 (by decide) ?_
          refine lv_icmp_ge hx hb dX7_comeNumber_55 rfl (fun h => ?_) (fun h => ?_)
          · have hf := itp h hf
            exact bX7_comeNumber_84 X ih  J (lv_sub hl [0] rfl) hf
          · have hf := itn h hf
            refine lv_aload_n hx hb dX7_comeNumber_58 rfl (lv_at hl 0 rfl) ?_
            refine lv_aload_n hx hb dX7_comeNumber_59 rfl (lv_at hl 0 rfl) ?_
            refine gf_X7_70 X J dX7_comeNumber_60 ?_
            refine lv_ldc2 (v := (10 : Int64)) hx hb X.2.2.2.1 (X.2.2.2.2.1 _ mw_constantLong_TinyCScan_74) dX7_comeNumber_63 ?_
            refine lv_lmul hx hb dX7_comeNumber_66 ?_
            refine lv_aload_n hx hb dX7_comeNumber_67 rfl (lv_at hl 0 rfl) ?_
            refine gf_X7_9 X J dX7_comeNumber_68 ?_
            refine lv_aload_n hx hb dX7_comeNumber_71 rfl (lv_at hl 0 rfl) ?_
            refine gf_X7_22 X J dX7_comeNumber_72 ?_
            obtain ⟨hin, hf⟩ := itx hf
            refine al_X7_X7f0 X J hin dX7_comeNumber_75 ?_
            refine lv_bipush (v := (48 : Int32)) hx hb dX7_comeNumber_76 (by decide) ?_
            refine lv_isub hx hb dX7_comeNumber_78 ?_
            refine lv_i2l hx hb dX7_comeNumber_79 rfl ?_
            refine lv_ladd hx hb dX7_comeNumber_80 ?_
            refine pf_X7_70 X J dX7_comeNumber_81 (fun σ3 H locs eq J => ?_)
            have hf := bnd_eq eq hf
            clear eq
            exact bX7_comeNumber_84 X ih  J (lv_sub hl [0] rfl) hf
set_option maxHeartbeats 4000000 in
theorem tX7_comeNumber   {σ u : zSt} {r : Int32} (hf : fX7_comeNumber ln N M  σ = some (r, u)) : zMi l yX7_comeNumber cX7_comeNumber 1 (some .int) (0) D cy shC ad ts ln [.ref (ad 1)] σ r u := by
  refine zM_of (by decide) (Nat.le_of_ble_eq_true rfl) (fun p e s m args below meth c ls ha X J hl => ?_)
  have hx := X.1
  have hb := X.2.1
  have hl : lv_has ls 1 [(0, .ref (ad 1))] := hl
  generalize s.heap = H at J ⊢
  generalize ([] : List Loc) = locs at J ⊢
  show W p l e (zRm (0)) s m args below meth c H locs 0 0 (zQi D cy shC ad ts ln below args s (r, u)) (F0 m 0 ls [])
  unfold fX7_comeNumber at hf
  refine lv_aload_n hx hb dX7_comeNumber_0 rfl (lv_at hl 0 rfl) ?_
  refine lv_lconst (v := (0 : Int64)) hx hb dX7_comeNumber_1 (by decide) ?_
  refine pf_X7_70 X J dX7_comeNumber_2 (fun σ1 H locs eq J => ?_)
  have hf := bnd_eq eq hf
  clear eq
  exact bX7_comeNumber_5 X  N _ _ _ _ J (lv_sub hl [0] rfl) hf
set_option maxHeartbeats 4000000 in
theorem bX7_isLetter_30 {o : Int32 × zSt} (X : zX p s m args meth c D cy shC ad ts cX7_isLetter 1 (some .boolean) RX7)    {σ : zSt} {H : Heap} {locs : List Loc} {ls : Array Slot} (J : zJ D cy shC ad ln s σ H locs) (hl : lv_has ls 1 []) (hf : fX7_isLetter_b30 ln N M   σ = some o) : W p l e (zRm (0)) s m args below meth c H locs 0 0 (zQi D cy shC ad ts ln below args s o) (F0 m 30 ls []) := by
  have hx := X.1
  have hb := X.2.1
  unfold fX7_isLetter_b30 at hf
  refine lv_iconst (v := (1 : Int32)) hx hb dX7_isLetter_30 (by decide) ?_
  refine lv_goto hx hb dX7_isLetter_31 rfl ?_
  exact zr_zretc X J (by decide) hf dX7_isLetter_35
set_option maxHeartbeats 4000000 in
theorem bX7_isLetter_24 {o : Int32 × zSt} (X : zX p s m args meth c D cy shC ad ts cX7_isLetter 1 (some .boolean) RX7)  {x0_ : Int32}  {σ : zSt} {H : Heap} {locs : List Loc} {ls : Array Slot} (J : zJ D cy shC ad ln s σ H locs) (hl : lv_has ls 1 [(0, .int x0_)]) (hf : fX7_isLetter_b24 ln N M  x0_ σ = some o) : W p l e (zRm (0)) s m args below meth c H locs 0 0 (zQi D cy shC ad ts ln below args s o) (F0 m 24 ls []) := by
  have hx := X.1
  have hb := X.2.1
  unfold fX7_isLetter_b24 at hf
  refine lv_iload_n hx hb dX7_isLetter_24 rfl (lv_at hl 0 rfl) ?_
  refine lv_bipush (v := (95 : Int32)) hx hb dX7_isLetter_25 (by decide) ?_
  refine lv_icmp_ne hx hb dX7_isLetter_27 rfl (fun h => ?_) (fun h => ?_)
  · have hf := itn h hf
    refine lv_iconst (v := (0 : Int32)) hx hb dX7_isLetter_34 (by decide) ?_
    exact zr_zretc X J (by decide) hf dX7_isLetter_35
  · have hf := itp h hf
    exact bX7_isLetter_30 X   J (lv_sub hl [] rfl) hf
set_option maxHeartbeats 4000000 in
theorem bX7_isLetter_12 {o : Int32 × zSt} (X : zX p s m args meth c D cy shC ad ts cX7_isLetter 1 (some .boolean) RX7)  {x0_ : Int32}  {σ : zSt} {H : Heap} {locs : List Loc} {ls : Array Slot} (J : zJ D cy shC ad ln s σ H locs) (hl : lv_has ls 1 [(0, .int x0_)]) (hf : fX7_isLetter_b12 ln N M  x0_ σ = some o) : W p l e (zRm (0)) s m args below meth c H locs 0 0 (zQi D cy shC ad ts ln below args s o) (F0 m 12 ls []) := by
  have hx := X.1
  have hb := X.2.1
  unfold fX7_isLetter_b12 at hf
  refine lv_iload_n hx hb dX7_isLetter_12 rfl (lv_at hl 0 rfl) ?_
  refine lv_bipush (v := (65 : Int32)) hx hb dX7_isLetter_13 (by decide) ?_
  refine lv_icmp_lt hx hb dX7_isLetter_15 rfl (fun h => ?_) (fun h => ?_)
  · have hf := itp h hf
    exact bX7_isLetter_24 X   J (lv_sub hl [0] rfl) hf
  · have hf := itn h hf
    refine lv_iload_n hx hb dX7_isLetter_18 rfl (lv_at hl 0 rfl) ?_
    refine lv_bipush (v := (90 : Int32)) hx hb dX7_isLetter_19 (by decide) ?_
    refine lv_icmp_le hx hb dX7_isLetter_21 rfl (fun h => ?_) (fun h => ?_)
    · have hf := itp h hf
      exact bX7_isLetter_30 X   J (lv_sub hl [] rfl) hf
    · have hf := itn h hf
      exact bX7_isLetter_24 X   J (lv_sub hl [0] rfl) hf
set_option maxHeartbeats 4000000 in
theorem tX7_isLetter {a0_ : Int32}  {σ u : zSt} {r : Int32} (hf : fX7_isLetter ln N M a0_ σ = some (r, u)) : zMi l yX7_isLetter cX7_isLetter 1 (some .boolean) (0) D cy shC ad ts ln [.int a0_] σ r u := by
  refine zM_of (by decide) (Nat.le_of_ble_eq_true rfl) (fun p e s m args below meth c ls ha X J hl => ?_)
  have hx := X.1
  have hb := X.2.1
  have hl : lv_has ls 1 [(0, .int a0_)] := hl
  generalize s.heap = H at J ⊢
  generalize ([] : List Loc) = locs at J ⊢
  show W p l e (zRm (0)) s m args below meth c H locs 0 0 (zQi D cy shC ad ts ln below args s (r, u)) (F0 m 0 ls [])
  unfold fX7_isLetter at hf
  refine lv_iload_n hx hb dX7_isLetter_0 rfl (lv_at hl 0 rfl) ?_
  refine lv_bipush (v := (97 : Int32)) hx hb dX7_isLetter_1 (by decide) ?_
  refine lv_icmp_lt hx hb dX7_isLetter_3 rfl (fun h => ?_) (fun h => ?_)
  · have hf := itp h hf
    exact bX7_isLetter_12 X   J (lv_sub hl [0] rfl) hf
  · have hf := itn h hf
    refine lv_iload_n hx hb dX7_isLetter_6 rfl (lv_at hl 0 rfl) ?_
    refine lv_bipush (v := (122 : Int32)) hx hb dX7_isLetter_7 (by decide) ?_
    refine lv_icmp_le hx hb dX7_isLetter_9 rfl (fun h => ?_) (fun h => ?_)
    · have hf := itp h hf
      exact bX7_isLetter_30 X   J (lv_sub hl [] rfl) hf
    · have hf := itn h hf
      exact bX7_isLetter_12 X   J (lv_sub hl [0] rfl) hf
set_option maxHeartbeats 4000000 in
theorem bX7_comeWord_119 {o : Int32 × zSt} (X : zX p s m args meth c D cy shC ad ts cX7_comeWord 4 (some .int) RX7)  : ∀ (n : Nat) (x1_ : Int32) (σ : zSt) (H : Heap) (locs : List Loc) (ls : Array Slot), zJ D cy shC ad ln s σ H locs → lv_has ls 4 [(0, .ref (ad 1)), (1, .int x1_)] → fX7_comeWord_b119 ln N M  n x1_ σ = some o → W p l e (zRm (0)) s m args below meth c H locs 0 0 (zQi D cy shC ad ts ln below args s o) (F0 m 119 ls []) := by
  have hx := X.1
  have hb := X.2.1
  intro n
  induction n with
  | zero =>
    intro x1_ σ H locs ls J hl hf
    rw [fX7_comeWord_b119] at hf
    cases hf
  | succ n ih =>
    intro x1_ σ H locs ls J hl hf
    rw [fX7_comeWord_b119] at hf
    refine lv_iload_n hx hb dX7_comeWord_119 rfl (lv_at hl 1 rfl) ?_
    refine gs_X7_79 X J dX7_comeWord_120 ?_
    refine sn_X7_KEYWORDS X J dX7_comeWord_123 ?_
    refine lv_icmp_ge hx hb dX7_comeWord_124 rfl (fun h => ?_) (fun h => ?_)
    · have hf := itp h hf
      refine lv_bipush (v := (40 : Int32)) hx hb dX7_comeWord_151 (by decide) ?_
      exact zr_iret X J hf dX7_comeWord_153
    · have hf := itn h hf
      refine gs_X7_79 X J dX7_comeWord_127 ?_
      refine lv_iload_n hx hb dX7_comeWord_130 rfl (lv_at hl 1 rfl) ?_
      obtain ⟨hin, hf⟩ := itx hf
      refine sl_X7_KEYWORDS X J hin dX7_comeWord_131 ?_
      refine lv_aload_n hx hb dX7_comeWord_132 rfl (lv_at hl 0 rfl) ?_
      refine gf_X7_76 X J dX7_comeWord_133 ?_
      refine W.lcmp hx hb dX7_comeWord_136 ?_
      refine lv_if_ne hx hb dX7_comeWord_137 rfl (fun h => ?_) (fun h => ?_)
      · have hf := itn h hf
        obtain ⟨x3, eq⟩ : ∃ z, z = x1_ + (1 : Int32) := ⟨_, rfl⟩
        have hf := bnd_eq eq hf
        refine lv_iinc hx hb dX7_comeWord_145 hl (k := 1) rfl (v := x3) (by rw [eq]; rfl) (by decide) rfl (fun ls hl => ?_)
        clear eq
        have hl : lv_has ls 4 [(1, .int x3), (0, .ref (ad 1))] := hl
        refine lv_goto hx hb dX7_comeWord_148 rfl ?_
        exact ih _ _ _ _ _ J (lv_sub hl [1, 0] rfl) hf
      · have hf := itp h hf
        refine lv_bipush (v := (42 : Int32)) hx hb dX7_comeWord_140 (by decide) ?_
        refine lv_iload_n hx hb dX7_comeWord_142 rfl (lv_at hl 1 rfl) ?_
        refine lv_iadd hx hb dX7_comeWord_143 ?_
        exact zr_iret X J hf dX7_comeWord_144
set_option maxHeartbeats 4000000 in
theorem bX7_comeWord_101 {o : Int32 × zSt} (X : zX p s m args meth c D cy shC ad ts cX7_comeWord 4 (some .int) RX7)    {σ : zSt} {H : Heap} {locs : List Loc} {ls : Array Slot} (J : zJ D cy shC ad ln s σ H locs) (hl : lv_has ls 4 [(0, .ref (ad 1))]) (hf : fX7_comeWord_b101 ln N M   σ = some o) : W p l e (zRm (0)) s m args below meth c H locs 0 0 (zQi D cy shC ad ts ln below args s o) (F0 m 101 ls []) := by
  have hx := X.1
  have hb := X.2.1
  unfold fX7_comeWord_b101 at hf
  refine lv_aload_n hx hb dX7_comeWord_101 rfl (lv_at hl 0 rfl) ?_
  refine gf_X7_22 X J dX7_comeWord_102 ?_
  refine lv_aload_n hx hb dX7_comeWord_105 rfl (lv_at hl 0 rfl) ?_
  refine gf_X7_31 X J dX7_comeWord_106 ?_
  refine lv_isub hx hb dX7_comeWord_109 ?_
  refine lv_bipush (v := (8 : Int32)) hx hb dX7_comeWord_110 (by decide) ?_
  refine lv_icmp_le hx hb dX7_comeWord_112 rfl (fun h => ?_) (fun h => ?_)
  · have hf := itp h hf
    refine lv_iconst (v := (0 : Int32)) hx hb dX7_comeWord_117 (by decide) ?_
    refine lv_topi (fun x2 eq => ?_)
    have hf := bnd_eq eq hf
    clear eq
    refine lv_istore_n hx hb dX7_comeWord_118 rfl hl (by decide) rfl (fun ls hl => ?_)
    have hl : lv_has ls 4 [(1, .int x2), (0, .ref (ad 1))] := hl
    exact bX7_comeWord_119 X  N _ _ _ _ _ J (lv_sub hl [1, 0] rfl) hf
  · have hf := itn h hf
    refine lv_iconst (v := (-1 : Int32)) hx hb dX7_comeWord_115 (by decide) ?_
    exact zr_iret X J hf dX7_comeWord_116
set_option maxHeartbeats 4000000 in
theorem bX7_comeWord_74 {o : Int32 × zSt} (X : zX p s m args meth c D cy shC ad ts cX7_comeWord 4 (some .int) RX7) {k5 : zSt → Option (Int32 × zSt)} (hk5 : ∀  (σ : zSt) (H : Heap) (locs : List Loc) (ls : Array Slot), zJ D cy shC ad ln s σ H locs → lv_has ls 4 [(0, .ref (ad 1))] → k5  σ = some o → W p l e (zRm (0)) s m args below meth c H locs 0 0 (zQi D cy shC ad ts ln below args s o) (F0 m 5 ls [])) {x1_ : Int32}  {σ : zSt} {H : Heap} {locs : List Loc} {ls : Array Slot} (J : zJ D cy shC ad ln s σ H locs) (hl : lv_has ls 4 [(0, .ref (ad 1)), (1, .int x1_)]) (hf : fX7_comeWord_b74 ln N M k5 x1_ σ = some o) : W p l e (zRm (0)) s m args below meth c H locs 0 0 (zQi D cy shC ad ts ln below args s o) (F0 m 74 ls []) := by
  have hx := X.1
  have hb := X.2.1
  unfold fX7_comeWord_b74 at hf
  refine lv_aload_n hx hb dX7_comeWord_74 rfl (lv_at hl 0 rfl) ?_
  refine lv_aload_n hx hb dX7_comeWord_75 rfl (lv_at hl 0 rfl) ?_
  refine gf_X7_76 X J dX7_comeWord_76 ?_
  refine lv_bipush (v := (8 : Int32)) hx hb dX7_comeWord_79 (by decide) ?_
  refine lv_lshl hx hb dX7_comeWord_81 rfl ?_
  refine lv_iload_n hx hb dX7_comeWord_82 rfl (lv_at hl 1 rfl) ?_
  refine lv_i2l hx hb dX7_comeWord_83 rfl ?_
  refine lv_lor hx hb dX7_comeWord_84 ?_
  refine pf_X7_76 X J dX7_comeWord_85 (fun σ6 H locs eq J => ?_)
  have hf := bnd_eq eq hf
  clear eq
  refine lv_aload_n hx hb dX7_comeWord_88 rfl (lv_at hl 0 rfl) ?_
  refine lv_dup hx hb dX7_comeWord_89 rfl ?_
  refine gf_X7_22 X J dX7_comeWord_90 ?_
  refine lv_iconst (v := (1 : Int32)) hx hb dX7_comeWord_93 (by decide) ?_
  refine lv_iadd hx hb dX7_comeWord_94 ?_
  refine pf_X7_22 X J dX7_comeWord_95 (fun σ7 H locs eq J => ?_)
  have hf := bnd_eq eq hf
  clear eq
  refine lv_goto hx hb dX7_comeWord_98 rfl ?_
  exact hk5 _ _ _ _ J (lv_sub hl [0] rfl) hf
set_option maxHeartbeats 4000000 in
theorem bX7_comeWord_54 {o : Int32 × zSt} (X : zX p s m args meth c D cy shC ad ts cX7_comeWord 4 (some .int) RX7) {k5 : zSt → Option (Int32 × zSt)} (hk5 : ∀  (σ : zSt) (H : Heap) (locs : List Loc) (ls : Array Slot), zJ D cy shC ad ln s σ H locs → lv_has ls 4 [(0, .ref (ad 1))] → k5  σ = some o → W p l e (zRm (0)) s m args below meth c H locs 0 0 (zQi D cy shC ad ts ln below args s o) (F0 m 5 ls [])) {x1_ : Int32} {s0_ : Int32}  {σ : zSt} {H : Heap} {locs : List Loc} {ls : Array Slot} (J : zJ D cy shC ad ln s σ H locs) (hl : lv_has ls 4 [(0, .ref (ad 1)), (1, .int x1_)]) (hf : fX7_comeWord_b54 ln N M k5 x1_ s0_ σ = some o) : W p l e (zRm (0)) s m args below meth c H locs 0 0 (zQi D cy shC ad ts ln below args s o) (F0 m 54 ls [.int s0_]) := by
  have hx := X.1
  have hb := X.2.1
  unfold fX7_comeWord_b54 at hf
  refine lv_istore_n hx hb dX7_comeWord_54 rfl hl (by decide) rfl (fun ls hl => ?_)
  have hl : lv_has ls 4 [(3, .int s0_), (0, .ref (ad 1)), (1, .int x1_)] := hl
  refine lv_iload_n hx hb dX7_comeWord_55 rfl (lv_at hl 0 rfl) ?_
  refine lv_if_ne hx hb dX7_comeWord_56 rfl (fun h => ?_) (fun h => ?_)
  · have hf := itn h hf
    exact bX7_comeWord_74 X hk5  J (lv_sub hl [1, 2] rfl) hf
  · have hf := itp h hf
    refine lv_iload_n hx hb dX7_comeWord_59 rfl (lv_at hl 2 rfl) ?_
    refine lv_bipush (v := (48 : Int32)) hx hb dX7_comeWord_60 (by decide) ?_
    refine lv_icmp_lt hx hb dX7_comeWord_62 rfl (fun h => ?_) (fun h => ?_)
    · have hf := itp h hf
      exact bX7_comeWord_101 X   J (lv_sub hl [1] rfl) hf
    · have hf := itn h hf
      refine lv_iload_n hx hb dX7_comeWord_65 rfl (lv_at hl 2 rfl) ?_
      refine lv_bipush (v := (57 : Int32)) hx hb dX7_comeWord_66 (by decide) ?_
      refine lv_icmp_le hx hb dX7_comeWord_68 rfl (fun h => ?_) (fun h => ?_)
      · have hf := itp h hf
        exact bX7_comeWord_74 X hk5  J (lv_sub hl [1, 2] rfl) hf
      · have hf := itn h hf
        refine lv_goto hx hb dX7_comeWord_71 rfl ?_
        exact bX7_comeWord_101 X   J (lv_sub hl [1] rfl) hf
set_option maxHeartbeats 4000000 in
theorem bX7_comeWord_49 {o : Int32 × zSt} (X : zX p s m args meth c D cy shC ad ts cX7_comeWord 4 (some .int) RX7) {k5 : zSt → Option (Int32 × zSt)} (hk5 : ∀  (σ : zSt) (H : Heap) (locs : List Loc) (ls : Array Slot), zJ D cy shC ad ln s σ H locs → lv_has ls 4 [(0, .ref (ad 1))] → k5  σ = some o → W p l e (zRm (0)) s m args below meth c H locs 0 0 (zQi D cy shC ad ts ln below args s o) (F0 m 5 ls [])) {x1_ : Int32}  {σ : zSt} {H : Heap} {locs : List Loc} {ls : Array Slot} (J : zJ D cy shC ad ln s σ H locs) (hl : lv_has ls 4 [(0, .ref (ad 1)), (1, .int x1_)]) (hf : fX7_comeWord_b49 ln N M k5 x1_ σ = some o) : W p l e (zRm (0)) s m args below meth c H locs 0 0 (zQi D cy shC ad ts ln below args s o) (F0 m 49 ls []) := by
  have hx := X.1
  have hb := X.2.1
  unfold fX7_comeWord_b49 at hf
  refine lv_iconst (v := (1 : Int32)) hx hb dX7_comeWord_49 (by decide) ?_
  refine lv_goto hx hb dX7_comeWord_50 rfl ?_
  exact bX7_comeWord_54 X hk5  J (lv_sub hl [0, 1] rfl) hf
set_option maxHeartbeats 4000000 in
theorem bX7_comeWord_43 {o : Int32 × zSt} (X : zX p s m args meth c D cy shC ad ts cX7_comeWord 4 (some .int) RX7) {k5 : zSt → Option (Int32 × zSt)} (hk5 : ∀  (σ : zSt) (H : Heap) (locs : List Loc) (ls : Array Slot), zJ D cy shC ad ln s σ H locs → lv_has ls 4 [(0, .ref (ad 1))] → k5  σ = some o → W p l e (zRm (0)) s m args below meth c H locs 0 0 (zQi D cy shC ad ts ln below args s o) (F0 m 5 ls [])) {x1_ : Int32}  {σ : zSt} {H : Heap} {locs : List Loc} {ls : Array Slot} (J : zJ D cy shC ad ln s σ H locs) (hl : lv_has ls 4 [(0, .ref (ad 1)), (1, .int x1_)]) (hf : fX7_comeWord_b43 ln N M k5 x1_ σ = some o) : W p l e (zRm (0)) s m args below meth c H locs 0 0 (zQi D cy shC ad ts ln below args s o) (F0 m 43 ls []) := by
  have hx := X.1
  have hb := X.2.1
  unfold fX7_comeWord_b43 at hf
  refine lv_iload_n hx hb dX7_comeWord_43 rfl (lv_at hl 1 rfl) ?_
  refine lv_bipush (v := (95 : Int32)) hx hb dX7_comeWord_44 (by decide) ?_
  refine lv_icmp_ne hx hb dX7_comeWord_46 rfl (fun h => ?_) (fun h => ?_)
  · have hf := itn h hf
    refine lv_iconst (v := (0 : Int32)) hx hb dX7_comeWord_53 (by decide) ?_
    exact bX7_comeWord_54 X hk5  J (lv_sub hl [0, 1] rfl) hf
  · have hf := itp h hf
    exact bX7_comeWord_49 X hk5  J (lv_sub hl [0, 1] rfl) hf
set_option maxHeartbeats 4000000 in
theorem bX7_comeWord_5 {o : Int32 × zSt} (X : zX p s m args meth c D cy shC ad ts cX7_comeWord 4 (some .int) RX7)  : ∀ (n : Nat)  (σ : zSt) (H : Heap) (locs : List Loc) (ls : Array Slot), zJ D cy shC ad ln s σ H locs → lv_has ls 4 [(0, .ref (ad 1))] → fX7_comeWord_b5 ln N M  n  σ = some o → W p l e (zRm (0)) s m args below meth c H locs 0 0 (zQi D cy shC ad ts ln below args s o) (F0 m 5 ls []) := by
  have hx := X.1
  have hb := X.2.1
  intro n
  induction n with
  | zero =>
    intro  σ H locs ls J hl hf
    rw [fX7_comeWord_b5] at hf
    cases hf
  | succ n ih =>
    intro  σ H locs ls J hl hf
    rw [fX7_comeWord_b5] at hf
    refine lv_aload_n hx hb dX7_comeWord_5 rfl (lv_at hl 0 rfl) ?_
    refine gf_X7_22 X J dX7_comeWord_6 ?_
    refine lv_aload_n hx hb dX7_comeWord_9 rfl (lv_at hl 0 rfl) ?_
    refine gf_X7_15 X J dX7_comeWord_10 ?_
    refine lv_icmp_ge hx hb dX7_comeWord_13 rfl (fun h => ?_) (fun h => ?_)
    · have hf := itp h hf
      exact bX7_comeWord_101 X   J (lv_sub hl [0] rfl) hf
    · have hf := itn h hf
      refine lv_aload_n hx hb dX7_comeWord_16 rfl (lv_at hl 0 rfl) ?_
      refine gf_X7_9 X J dX7_comeWord_17 ?_
      refine lv_aload_n hx hb dX7_comeWord_20 rfl (lv_at hl 0 rfl) ?_
      refine gf_X7_22 X J dX7_comeWord_21 ?_
      obtain ⟨hin, hf⟩ := itx hf
      refine al_X7_X7f0 X J hin dX7_comeWord_24 ?_
      refine lv_topi (fun x4 eq => ?_)
      have hf := bnd_eq eq hf
      clear eq
      refine lv_istore_n hx hb dX7_comeWord_25 rfl hl (by decide) rfl (fun ls hl => ?_)
      have hl : lv_has ls 4 [(1, .int x4), (0, .ref (ad 1))] := hl
      refine lv_iload_n hx hb dX7_comeWord_26 rfl (lv_at hl 0 rfl) ?_
      refine lv_bipush (v := (32 : Int32)) hx hb dX7_comeWord_27 (by decide) ?_
      refine lv_ior hx hb dX7_comeWord_29 ?_
      refine lv_topi (fun x5 eq => ?_)
      have hf := bnd_eq eq hf
      clear eq
      refine lv_istore_n hx hb dX7_comeWord_30 rfl hl (by decide) rfl (fun ls hl => ?_)
      have hl : lv_has ls 4 [(2, .int x5), (1, .int x4), (0, .ref (ad 1))] := hl
      refine lv_iload_n hx hb dX7_comeWord_31 rfl (lv_at hl 0 rfl) ?_
      refine lv_bipush (v := (97 : Int32)) hx hb dX7_comeWord_32 (by decide) ?_
      refine lv_icmp_lt hx hb dX7_comeWord_34 rfl (fun h => ?_) (fun h => ?_)
      · have hf := itp h hf
        exact bX7_comeWord_43 X ih  J (lv_sub hl [2, 1] rfl) hf
      · have hf := itn h hf
        refine lv_iload_n hx hb dX7_comeWord_37 rfl (lv_at hl 0 rfl) ?_
        refine lv_bipush (v := (122 : Int32)) hx hb dX7_comeWord_38 (by decide) ?_
        refine lv_icmp_le hx hb dX7_comeWord_40 rfl (fun h => ?_) (fun h => ?_)
        · have hf := itp h hf
          exact bX7_comeWord_49 X ih  J (lv_sub hl [2, 1] rfl) hf
        · have hf := itn h hf
          exact bX7_comeWord_43 X ih  J (lv_sub hl [2, 1] rfl) hf
set_option maxHeartbeats 4000000 in
theorem tX7_comeWord   {σ u : zSt} {r : Int32} (hf : fX7_comeWord ln N M  σ = some (r, u)) : zMi l yX7_comeWord cX7_comeWord 4 (some .int) (0) D cy shC ad ts ln [.ref (ad 1)] σ r u := by
  refine zM_of (by decide) (Nat.le_of_ble_eq_true rfl) (fun p e s m args below meth c ls ha X J hl => ?_)
  have hx := X.1
  have hb := X.2.1
  have hl : lv_has ls 4 [(0, .ref (ad 1))] := hl
  generalize s.heap = H at J ⊢
  generalize ([] : List Loc) = locs at J ⊢
  show W p l e (zRm (0)) s m args below meth c H locs 0 0 (zQi D cy shC ad ts ln below args s (r, u)) (F0 m 0 ls [])
  unfold fX7_comeWord at hf
  refine lv_aload_n hx hb dX7_comeWord_0 rfl (lv_at hl 0 rfl) ?_
  refine lv_lconst (v := (0 : Int64)) hx hb dX7_comeWord_1 (by decide) ?_
  refine pf_X7_76 X J dX7_comeWord_2 (fun σ1 H locs eq J => ?_)
  have hf := bnd_eq eq hf
  clear eq
  exact bX7_comeWord_5 X  N _ _ _ _ J (lv_sub hl [0] rfl) hf
set_option maxHeartbeats 4000000 in
theorem tX7_kindOfPair {a0_ : Int32} {a1_ : Int32}  {σ u : zSt} {r : Int32} (hf : fX7_kindOfPair ln N M a0_ a1_ σ = some (r, u)) : zMi l yX7_kindOfPair cX7_kindOfPair 2 (some .int) (0) D cy shC ad ts ln [.int a0_, .int a1_] σ r u := by
  refine zM_of (by decide) (Nat.le_of_ble_eq_true rfl) (fun p e s m args below meth c ls ha X J hl => ?_)
  have hx := X.1
  have hb := X.2.1
  have hl : lv_has ls 2 [(0, .int a0_), (1, .int a1_)] := hl
  generalize s.heap = H at J ⊢
  generalize ([] : List Loc) = locs at J ⊢
  show W p l e (zRm (0)) s m args below meth c H locs 0 0 (zQi D cy shC ad ts ln below args s (r, u)) (F0 m 0 ls [])
  unfold fX7_kindOfPair at hf
  refine lv_iload_n hx hb dX7_kindOfPair_0 rfl (lv_at hl 1 rfl) ?_
  refine lv_bipush (v := (61 : Int32)) hx hb dX7_kindOfPair_1 (by decide) ?_
  refine lv_icmp_ne hx hb dX7_kindOfPair_3 rfl (fun h => ?_) (fun h => ?_)
  · have hf := itn h hf
    refine lv_iload_n hx hb dX7_kindOfPair_62 rfl (lv_at hl 0 rfl) ?_
    refine lv_iload_n hx hb dX7_kindOfPair_63 rfl (lv_at hl 1 rfl) ?_
    refine lv_icmp_eq hx hb dX7_kindOfPair_64 rfl (fun h => ?_) (fun h => ?_)
    · have hf := itp h hf
      refine lv_iload_n hx hb dX7_kindOfPair_69 rfl (lv_at hl 0 rfl) ?_
      by_cases h0_ : a0_ = (38 : Int32)
      · have hf := itp h0_ hf
        rw [h0_]
        refine lv_lookup hx hb dX7_kindOfPair_70 (by decide) (tgt := 115) (by rfl) (by decide) ?_
        refine lv_bipush (v := (8 : Int32)) hx hb dX7_kindOfPair_115 (by decide) ?_
        exact zr_iret X J hf dX7_kindOfPair_117
      have hf := itn h0_ hf
      by_cases h1_ : a0_ = (60 : Int32)
      · have hf := itp h1_ hf
        rw [h1_]
        refine lv_lookup hx hb dX7_kindOfPair_70 (by decide) (tgt := 118) (by rfl) (by decide) ?_
        refine lv_bipush (v := (19 : Int32)) hx hb dX7_kindOfPair_118 (by decide) ?_
        exact zr_iret X J hf dX7_kindOfPair_120
      have hf := itn h1_ hf
      by_cases h2_ : a0_ = (62 : Int32)
      · have hf := itp h2_ hf
        rw [h2_]
        refine lv_lookup hx hb dX7_kindOfPair_70 (by decide) (tgt := 121) (by rfl) (by decide) ?_
        refine lv_bipush (v := (20 : Int32)) hx hb dX7_kindOfPair_121 (by decide) ?_
        exact zr_iret X J hf dX7_kindOfPair_123
      have hf := itn h2_ hf
      by_cases h3_ : a0_ = (124 : Int32)
      · have hf := itp h3_ hf
        rw [h3_]
        refine lv_lookup hx hb dX7_kindOfPair_70 (by decide) (tgt := 112) (by rfl) (by decide) ?_
        refine lv_bipush (v := (9 : Int32)) hx hb dX7_kindOfPair_112 (by decide) ?_
        exact zr_iret X J hf dX7_kindOfPair_114
      have hf := itn h3_ hf
      refine lv_lookup hx hb dX7_kindOfPair_70 (by decide) (off := 54) (tgt := 124) (by simp only []; rw [lv_osw h0_ (by decide), lv_osw h1_ (by decide), lv_osw h2_ (by decide), lv_osw h3_ (by decide)] <;> rfl) (by decide) ?_
      refine lv_iconst (v := (-1 : Int32)) hx hb dX7_kindOfPair_124 (by decide) ?_
      exact zr_iret X J hf dX7_kindOfPair_125
    · have hf := itn h hf
      refine lv_iconst (v := (-1 : Int32)) hx hb dX7_kindOfPair_67 (by decide) ?_
      exact zr_iret X J hf dX7_kindOfPair_68
  · have hf := itp h hf
    refine lv_iload_n hx hb dX7_kindOfPair_6 rfl (lv_at hl 0 rfl) ?_
    by_cases h0_ : a0_ = (33 : Int32)
    · have hf := itp h0_ hf
      rw [h0_]
      refine lv_lookup hx hb dX7_kindOfPair_7 (by decide) (tgt := 51) (by rfl) (by decide) ?_
      refine lv_bipush (v := (14 : Int32)) hx hb dX7_kindOfPair_51 (by decide) ?_
      exact zr_iret X J hf dX7_kindOfPair_53
    have hf := itn h0_ hf
    by_cases h1_ : a0_ = (60 : Int32)
    · have hf := itp h1_ hf
      rw [h1_]
      refine lv_lookup hx hb dX7_kindOfPair_7 (by decide) (tgt := 54) (by rfl) (by decide) ?_
      refine lv_bipush (v := (16 : Int32)) hx hb dX7_kindOfPair_54 (by decide) ?_
      exact zr_iret X J hf dX7_kindOfPair_56
    have hf := itn h1_ hf
    by_cases h2_ : a0_ = (61 : Int32)
    · have hf := itp h2_ hf
      rw [h2_]
      refine lv_lookup hx hb dX7_kindOfPair_7 (by decide) (tgt := 48) (by rfl) (by decide) ?_
      refine lv_bipush (v := (13 : Int32)) hx hb dX7_kindOfPair_48 (by decide) ?_
      exact zr_iret X J hf dX7_kindOfPair_50
    have hf := itn h2_ hf
    by_cases h3_ : a0_ = (62 : Int32)
    · have hf := itp h3_ hf
      rw [h3_]
      refine lv_lookup hx hb dX7_kindOfPair_7 (by decide) (tgt := 57) (by rfl) (by decide) ?_
      refine lv_bipush (v := (18 : Int32)) hx hb dX7_kindOfPair_57 (by decide) ?_
      exact zr_iret X J hf dX7_kindOfPair_59
    have hf := itn h3_ hf
    refine lv_lookup hx hb dX7_kindOfPair_7 (by decide) (off := 53) (tgt := 60) (by simp only []; rw [lv_osw h0_ (by decide), lv_osw h1_ (by decide), lv_osw h2_ (by decide), lv_osw h3_ (by decide)] <;> rfl) (by decide) ?_
    refine lv_iconst (v := (-1 : Int32)) hx hb dX7_kindOfPair_60 (by decide) ?_
    exact zr_iret X J hf dX7_kindOfPair_61
set_option maxHeartbeats 4000000 in
theorem tX7_kindOfSign {a0_ : Int32}  {σ u : zSt} {r : Int32} (hf : fX7_kindOfSign ln N M a0_ σ = some (r, u)) : zMi l yX7_kindOfSign cX7_kindOfSign 1 (some .int) (0) D cy shC ad ts ln [.int a0_] σ r u := by
  refine zM_of (by decide) (Nat.le_of_ble_eq_true rfl) (fun p e s m args below meth c ls ha X J hl => ?_)
  have hx := X.1
  have hb := X.2.1
  have hl : lv_has ls 1 [(0, .int a0_)] := hl
  generalize s.heap = H at J ⊢
  generalize ([] : List Loc) = locs at J ⊢
  show W p l e (zRm (0)) s m args below meth c H locs 0 0 (zQi D cy shC ad ts ln below args s (r, u)) (F0 m 0 ls [])
  unfold fX7_kindOfSign at hf
  refine lv_iload_n hx hb dX7_kindOfSign_0 rfl (lv_at hl 0 rfl) ?_
  by_cases h0_ : a0_ = (33 : Int32)
  · have hf := itp h0_ hf
    rw [h0_]
    refine lv_tableIn hx hb dX7_kindOfSign_1 (by decide) (by decide) (tgt := 449) (by rfl) (by decide) ?_
    refine lv_bipush (v := (25 : Int32)) hx hb dX7_kindOfSign_449 (by decide) ?_
    exact zr_iret X J hf dX7_kindOfSign_451
  have hf := itn h0_ hf
  by_cases h1_ : a0_ = (34 : Int32)
  · have hf := itp h1_ hf
    rw [h1_]
    refine lv_tableIn hx hb dX7_kindOfSign_1 (by decide) (by decide) (tgt := 455) (by rfl) (by decide) ?_
    refine lv_iconst (v := (-1 : Int32)) hx hb dX7_kindOfSign_455 (by decide) ?_
    exact zr_iret X J hf dX7_kindOfSign_456
  have hf := itn h1_ hf
  by_cases h2_ : a0_ = (35 : Int32)
  · have hf := itp h2_ hf
    rw [h2_]
    refine lv_tableIn hx hb dX7_kindOfSign_1 (by decide) (by decide) (tgt := 455) (by rfl) (by decide) ?_
    refine lv_iconst (v := (-1 : Int32)) hx hb dX7_kindOfSign_455 (by decide) ?_
    exact zr_iret X J hf dX7_kindOfSign_456
  have hf := itn h2_ hf
  by_cases h3_ : a0_ = (36 : Int32)
  · have hf := itp h3_ hf
    rw [h3_]
    refine lv_tableIn hx hb dX7_kindOfSign_1 (by decide) (by decide) (tgt := 455) (by rfl) (by decide) ?_
    refine lv_iconst (v := (-1 : Int32)) hx hb dX7_kindOfSign_455 (by decide) ?_
    exact zr_iret X J hf dX7_kindOfSign_456
  have hf := itn h3_ hf
  by_cases h4_ : a0_ = (37 : Int32)
  · have hf := itp h4_ hf
    rw [h4_]
    refine lv_tableIn hx hb dX7_kindOfSign_1 (by decide) (by decide) (tgt := 446) (by rfl) (by decide) ?_
    refine lv_bipush (v := (28 : Int32)) hx hb dX7_kindOfSign_446 (by decide) ?_
    exact zr_iret X J hf dX7_kindOfSign_448
  have hf := itn h4_ hf
  by_cases h5_ : a0_ = (38 : Int32)
  · have hf := itp h5_ hf
    rw [h5_]
    refine lv_tableIn hx hb dX7_kindOfSign_1 (by decide) (by decide) (tgt := 425) (by rfl) (by decide) ?_
    refine lv_bipush (v := (12 : Int32)) hx hb dX7_kindOfSign_425 (by decide) ?_
    exact zr_iret X J hf dX7_kindOfSign_427
  have hf := itn h5_ hf
  by_cases h6_ : a0_ = (39 : Int32)
  · have hf := itp h6_ hf
    rw [h6_]
    refine lv_tableIn hx hb dX7_kindOfSign_1 (by decide) (by decide) (tgt := 455) (by rfl) (by decide) ?_
    refine lv_iconst (v := (-1 : Int32)) hx hb dX7_kindOfSign_455 (by decide) ?_
    exact zr_iret X J hf dX7_kindOfSign_456
  have hf := itn h6_ hf
  by_cases h7_ : a0_ = (40 : Int32)
  · have hf := itp h7_ hf
    rw [h7_]
    refine lv_tableIn hx hb dX7_kindOfSign_1 (by decide) (by decide) (tgt := 392) (by rfl) (by decide) ?_
    refine lv_bipush (v := (49 : Int32)) hx hb dX7_kindOfSign_392 (by decide) ?_
    exact zr_iret X J hf dX7_kindOfSign_394
  have hf := itn h7_ hf
  by_cases h8_ : a0_ = (41 : Int32)
  · have hf := itp h8_ hf
    rw [h8_]
    refine lv_tableIn hx hb dX7_kindOfSign_1 (by decide) (by decide) (tgt := 395) (by rfl) (by decide) ?_
    refine lv_bipush (v := (50 : Int32)) hx hb dX7_kindOfSign_395 (by decide) ?_
    exact zr_iret X J hf dX7_kindOfSign_397
  have hf := itn h8_ hf
  by_cases h9_ : a0_ = (42 : Int32)
  · have hf := itp h9_ hf
    rw [h9_]
    refine lv_tableIn hx hb dX7_kindOfSign_1 (by decide) (by decide) (tgt := 440) (by rfl) (by decide) ?_
    refine lv_bipush (v := (23 : Int32)) hx hb dX7_kindOfSign_440 (by decide) ?_
    exact zr_iret X J hf dX7_kindOfSign_442
  have hf := itn h9_ hf
  by_cases h10_ : a0_ = (43 : Int32)
  · have hf := itp h10_ hf
    rw [h10_]
    refine lv_tableIn hx hb dX7_kindOfSign_1 (by decide) (by decide) (tgt := 434) (by rfl) (by decide) ?_
    refine lv_bipush (v := (21 : Int32)) hx hb dX7_kindOfSign_434 (by decide) ?_
    exact zr_iret X J hf dX7_kindOfSign_436
  have hf := itn h10_ hf
  by_cases h11_ : a0_ = (44 : Int32)
  · have hf := itp h11_ hf
    rw [h11_]
    refine lv_tableIn hx hb dX7_kindOfSign_1 (by decide) (by decide) (tgt := 410) (by rfl) (by decide) ?_
    refine lv_bipush (v := (55 : Int32)) hx hb dX7_kindOfSign_410 (by decide) ?_
    exact zr_iret X J hf dX7_kindOfSign_412
  have hf := itn h11_ hf
  by_cases h12_ : a0_ = (45 : Int32)
  · have hf := itp h12_ hf
    rw [h12_]
    refine lv_tableIn hx hb dX7_kindOfSign_1 (by decide) (by decide) (tgt := 437) (by rfl) (by decide) ?_
    refine lv_bipush (v := (22 : Int32)) hx hb dX7_kindOfSign_437 (by decide) ?_
    exact zr_iret X J hf dX7_kindOfSign_439
  have hf := itn h12_ hf
  by_cases h13_ : a0_ = (46 : Int32)
  · have hf := itp h13_ hf
    rw [h13_]
    refine lv_tableIn hx hb dX7_kindOfSign_1 (by decide) (by decide) (tgt := 455) (by rfl) (by decide) ?_
    refine lv_iconst (v := (-1 : Int32)) hx hb dX7_kindOfSign_455 (by decide) ?_
    exact zr_iret X J hf dX7_kindOfSign_456
  have hf := itn h13_ hf
  by_cases h14_ : a0_ = (47 : Int32)
  · have hf := itp h14_ hf
    rw [h14_]
    refine lv_tableIn hx hb dX7_kindOfSign_1 (by decide) (by decide) (tgt := 443) (by rfl) (by decide) ?_
    refine lv_bipush (v := (27 : Int32)) hx hb dX7_kindOfSign_443 (by decide) ?_
    exact zr_iret X J hf dX7_kindOfSign_445
  have hf := itn h14_ hf
  by_cases h15_ : a0_ = (48 : Int32)
  · have hf := itp h15_ hf
    rw [h15_]
    refine lv_tableIn hx hb dX7_kindOfSign_1 (by decide) (by decide) (tgt := 455) (by rfl) (by decide) ?_
    refine lv_iconst (v := (-1 : Int32)) hx hb dX7_kindOfSign_455 (by decide) ?_
    exact zr_iret X J hf dX7_kindOfSign_456
  have hf := itn h15_ hf
  by_cases h16_ : a0_ = (49 : Int32)
  · have hf := itp h16_ hf
    rw [h16_]
    refine lv_tableIn hx hb dX7_kindOfSign_1 (by decide) (by decide) (tgt := 455) (by rfl) (by decide) ?_
    refine lv_iconst (v := (-1 : Int32)) hx hb dX7_kindOfSign_455 (by decide) ?_
    exact zr_iret X J hf dX7_kindOfSign_456
  have hf := itn h16_ hf
  by_cases h17_ : a0_ = (50 : Int32)
  · have hf := itp h17_ hf
    rw [h17_]
    refine lv_tableIn hx hb dX7_kindOfSign_1 (by decide) (by decide) (tgt := 455) (by rfl) (by decide) ?_
    refine lv_iconst (v := (-1 : Int32)) hx hb dX7_kindOfSign_455 (by decide) ?_
    exact zr_iret X J hf dX7_kindOfSign_456
  have hf := itn h17_ hf
  by_cases h18_ : a0_ = (51 : Int32)
  · have hf := itp h18_ hf
    rw [h18_]
    refine lv_tableIn hx hb dX7_kindOfSign_1 (by decide) (by decide) (tgt := 455) (by rfl) (by decide) ?_
    refine lv_iconst (v := (-1 : Int32)) hx hb dX7_kindOfSign_455 (by decide) ?_
    exact zr_iret X J hf dX7_kindOfSign_456
  have hf := itn h18_ hf
  by_cases h19_ : a0_ = (52 : Int32)
  · have hf := itp h19_ hf
    rw [h19_]
    refine lv_tableIn hx hb dX7_kindOfSign_1 (by decide) (by decide) (tgt := 455) (by rfl) (by decide) ?_
    refine lv_iconst (v := (-1 : Int32)) hx hb dX7_kindOfSign_455 (by decide) ?_
    exact zr_iret X J hf dX7_kindOfSign_456
  have hf := itn h19_ hf
  by_cases h20_ : a0_ = (53 : Int32)
  · have hf := itp h20_ hf
    rw [h20_]
    refine lv_tableIn hx hb dX7_kindOfSign_1 (by decide) (by decide) (tgt := 455) (by rfl) (by decide) ?_
    refine lv_iconst (v := (-1 : Int32)) hx hb dX7_kindOfSign_455 (by decide) ?_
    exact zr_iret X J hf dX7_kindOfSign_456
  have hf := itn h20_ hf
  by_cases h21_ : a0_ = (54 : Int32)
  · have hf := itp h21_ hf
    rw [h21_]
    refine lv_tableIn hx hb dX7_kindOfSign_1 (by decide) (by decide) (tgt := 455) (by rfl) (by decide) ?_
    refine lv_iconst (v := (-1 : Int32)) hx hb dX7_kindOfSign_455 (by decide) ?_
    exact zr_iret X J hf dX7_kindOfSign_456
  have hf := itn h21_ hf
  by_cases h22_ : a0_ = (55 : Int32)
  · have hf := itp h22_ hf
    rw [h22_]
    refine lv_tableIn hx hb dX7_kindOfSign_1 (by decide) (by decide) (tgt := 455) (by rfl) (by decide) ?_
    refine lv_iconst (v := (-1 : Int32)) hx hb dX7_kindOfSign_455 (by decide) ?_
    exact zr_iret X J hf dX7_kindOfSign_456
  have hf := itn h22_ hf
  by_cases h23_ : a0_ = (56 : Int32)
  · have hf := itp h23_ hf
    rw [h23_]
    refine lv_tableIn hx hb dX7_kindOfSign_1 (by decide) (by decide) (tgt := 455) (by rfl) (by decide) ?_
    refine lv_iconst (v := (-1 : Int32)) hx hb dX7_kindOfSign_455 (by decide) ?_
    exact zr_iret X J hf dX7_kindOfSign_456
  have hf := itn h23_ hf
  by_cases h24_ : a0_ = (57 : Int32)
  · have hf := itp h24_ hf
    rw [h24_]
    refine lv_tableIn hx hb dX7_kindOfSign_1 (by decide) (by decide) (tgt := 455) (by rfl) (by decide) ?_
    refine lv_iconst (v := (-1 : Int32)) hx hb dX7_kindOfSign_455 (by decide) ?_
    exact zr_iret X J hf dX7_kindOfSign_456
  have hf := itn h24_ hf
  by_cases h25_ : a0_ = (58 : Int32)
  · have hf := itp h25_ hf
    rw [h25_]
    refine lv_tableIn hx hb dX7_kindOfSign_1 (by decide) (by decide) (tgt := 455) (by rfl) (by decide) ?_
    refine lv_iconst (v := (-1 : Int32)) hx hb dX7_kindOfSign_455 (by decide) ?_
    exact zr_iret X J hf dX7_kindOfSign_456
  have hf := itn h25_ hf
  by_cases h26_ : a0_ = (59 : Int32)
  · have hf := itp h26_ hf
    rw [h26_]
    refine lv_tableIn hx hb dX7_kindOfSign_1 (by decide) (by decide) (tgt := 413) (by rfl) (by decide) ?_
    refine lv_bipush (v := (56 : Int32)) hx hb dX7_kindOfSign_413 (by decide) ?_
    exact zr_iret X J hf dX7_kindOfSign_415
  have hf := itn h26_ hf
  by_cases h27_ : a0_ = (60 : Int32)
  · have hf := itp h27_ hf
    rw [h27_]
    refine lv_tableIn hx hb dX7_kindOfSign_1 (by decide) (by decide) (tgt := 428) (by rfl) (by decide) ?_
    refine lv_bipush (v := (15 : Int32)) hx hb dX7_kindOfSign_428 (by decide) ?_
    exact zr_iret X J hf dX7_kindOfSign_430
  have hf := itn h27_ hf
  by_cases h28_ : a0_ = (61 : Int32)
  · have hf := itp h28_ hf
    rw [h28_]
    refine lv_tableIn hx hb dX7_kindOfSign_1 (by decide) (by decide) (tgt := 416) (by rfl) (by decide) ?_
    refine lv_bipush (v := (57 : Int32)) hx hb dX7_kindOfSign_416 (by decide) ?_
    exact zr_iret X J hf dX7_kindOfSign_418
  have hf := itn h28_ hf
  by_cases h29_ : a0_ = (62 : Int32)
  · have hf := itp h29_ hf
    rw [h29_]
    refine lv_tableIn hx hb dX7_kindOfSign_1 (by decide) (by decide) (tgt := 431) (by rfl) (by decide) ?_
    refine lv_bipush (v := (17 : Int32)) hx hb dX7_kindOfSign_431 (by decide) ?_
    exact zr_iret X J hf dX7_kindOfSign_433
  have hf := itn h29_ hf
  by_cases h30_ : a0_ = (63 : Int32)
  · have hf := itp h30_ hf
    rw [h30_]
    refine lv_tableIn hx hb dX7_kindOfSign_1 (by decide) (by decide) (tgt := 455) (by rfl) (by decide) ?_
    refine lv_iconst (v := (-1 : Int32)) hx hb dX7_kindOfSign_455 (by decide) ?_
    exact zr_iret X J hf dX7_kindOfSign_456
  have hf := itn h30_ hf
  by_cases h31_ : a0_ = (64 : Int32)
  · have hf := itp h31_ hf
    rw [h31_]
    refine lv_tableIn hx hb dX7_kindOfSign_1 (by decide) (by decide) (tgt := 455) (by rfl) (by decide) ?_
    refine lv_iconst (v := (-1 : Int32)) hx hb dX7_kindOfSign_455 (by decide) ?_
    exact zr_iret X J hf dX7_kindOfSign_456
  have hf := itn h31_ hf
  by_cases h32_ : a0_ = (65 : Int32)
  · have hf := itp h32_ hf
    rw [h32_]
    refine lv_tableIn hx hb dX7_kindOfSign_1 (by decide) (by decide) (tgt := 455) (by rfl) (by decide) ?_
    refine lv_iconst (v := (-1 : Int32)) hx hb dX7_kindOfSign_455 (by decide) ?_
    exact zr_iret X J hf dX7_kindOfSign_456
  have hf := itn h32_ hf
  by_cases h33_ : a0_ = (66 : Int32)
  · have hf := itp h33_ hf
    rw [h33_]
    refine lv_tableIn hx hb dX7_kindOfSign_1 (by decide) (by decide) (tgt := 455) (by rfl) (by decide) ?_
    refine lv_iconst (v := (-1 : Int32)) hx hb dX7_kindOfSign_455 (by decide) ?_
    exact zr_iret X J hf dX7_kindOfSign_456
  have hf := itn h33_ hf
  by_cases h34_ : a0_ = (67 : Int32)
  · have hf := itp h34_ hf
    rw [h34_]
    refine lv_tableIn hx hb dX7_kindOfSign_1 (by decide) (by decide) (tgt := 455) (by rfl) (by decide) ?_
    refine lv_iconst (v := (-1 : Int32)) hx hb dX7_kindOfSign_455 (by decide) ?_
    exact zr_iret X J hf dX7_kindOfSign_456
  have hf := itn h34_ hf
  by_cases h35_ : a0_ = (68 : Int32)
  · have hf := itp h35_ hf
    rw [h35_]
    refine lv_tableIn hx hb dX7_kindOfSign_1 (by decide) (by decide) (tgt := 455) (by rfl) (by decide) ?_
    refine lv_iconst (v := (-1 : Int32)) hx hb dX7_kindOfSign_455 (by decide) ?_
    exact zr_iret X J hf dX7_kindOfSign_456
  have hf := itn h35_ hf
  by_cases h36_ : a0_ = (69 : Int32)
  · have hf := itp h36_ hf
    rw [h36_]
    refine lv_tableIn hx hb dX7_kindOfSign_1 (by decide) (by decide) (tgt := 455) (by rfl) (by decide) ?_
    refine lv_iconst (v := (-1 : Int32)) hx hb dX7_kindOfSign_455 (by decide) ?_
    exact zr_iret X J hf dX7_kindOfSign_456
  have hf := itn h36_ hf
  by_cases h37_ : a0_ = (70 : Int32)
  · have hf := itp h37_ hf
    rw [h37_]
    refine lv_tableIn hx hb dX7_kindOfSign_1 (by decide) (by decide) (tgt := 455) (by rfl) (by decide) ?_
    refine lv_iconst (v := (-1 : Int32)) hx hb dX7_kindOfSign_455 (by decide) ?_
    exact zr_iret X J hf dX7_kindOfSign_456
  have hf := itn h37_ hf
  by_cases h38_ : a0_ = (71 : Int32)
  · have hf := itp h38_ hf
    rw [h38_]
    refine lv_tableIn hx hb dX7_kindOfSign_1 (by decide) (by decide) (tgt := 455) (by rfl) (by decide) ?_
    refine lv_iconst (v := (-1 : Int32)) hx hb dX7_kindOfSign_455 (by decide) ?_
    exact zr_iret X J hf dX7_kindOfSign_456
  have hf := itn h38_ hf
  by_cases h39_ : a0_ = (72 : Int32)
  · have hf := itp h39_ hf
    rw [h39_]
    refine lv_tableIn hx hb dX7_kindOfSign_1 (by decide) (by decide) (tgt := 455) (by rfl) (by decide) ?_
    refine lv_iconst (v := (-1 : Int32)) hx hb dX7_kindOfSign_455 (by decide) ?_
    exact zr_iret X J hf dX7_kindOfSign_456
  have hf := itn h39_ hf
  by_cases h40_ : a0_ = (73 : Int32)
  · have hf := itp h40_ hf
    rw [h40_]
    refine lv_tableIn hx hb dX7_kindOfSign_1 (by decide) (by decide) (tgt := 455) (by rfl) (by decide) ?_
    refine lv_iconst (v := (-1 : Int32)) hx hb dX7_kindOfSign_455 (by decide) ?_
    exact zr_iret X J hf dX7_kindOfSign_456
  have hf := itn h40_ hf
  by_cases h41_ : a0_ = (74 : Int32)
  · have hf := itp h41_ hf
    rw [h41_]
    refine lv_tableIn hx hb dX7_kindOfSign_1 (by decide) (by decide) (tgt := 455) (by rfl) (by decide) ?_
    refine lv_iconst (v := (-1 : Int32)) hx hb dX7_kindOfSign_455 (by decide) ?_
    exact zr_iret X J hf dX7_kindOfSign_456
  have hf := itn h41_ hf
  by_cases h42_ : a0_ = (75 : Int32)
  · have hf := itp h42_ hf
    rw [h42_]
    refine lv_tableIn hx hb dX7_kindOfSign_1 (by decide) (by decide) (tgt := 455) (by rfl) (by decide) ?_
    refine lv_iconst (v := (-1 : Int32)) hx hb dX7_kindOfSign_455 (by decide) ?_
    exact zr_iret X J hf dX7_kindOfSign_456
  have hf := itn h42_ hf
  by_cases h43_ : a0_ = (76 : Int32)
  · have hf := itp h43_ hf
    rw [h43_]
    refine lv_tableIn hx hb dX7_kindOfSign_1 (by decide) (by decide) (tgt := 455) (by rfl) (by decide) ?_
    refine lv_iconst (v := (-1 : Int32)) hx hb dX7_kindOfSign_455 (by decide) ?_
    exact zr_iret X J hf dX7_kindOfSign_456
  have hf := itn h43_ hf
  by_cases h44_ : a0_ = (77 : Int32)
  · have hf := itp h44_ hf
    rw [h44_]
    refine lv_tableIn hx hb dX7_kindOfSign_1 (by decide) (by decide) (tgt := 455) (by rfl) (by decide) ?_
    refine lv_iconst (v := (-1 : Int32)) hx hb dX7_kindOfSign_455 (by decide) ?_
    exact zr_iret X J hf dX7_kindOfSign_456
  have hf := itn h44_ hf
  by_cases h45_ : a0_ = (78 : Int32)
  · have hf := itp h45_ hf
    rw [h45_]
    refine lv_tableIn hx hb dX7_kindOfSign_1 (by decide) (by decide) (tgt := 455) (by rfl) (by decide) ?_
    refine lv_iconst (v := (-1 : Int32)) hx hb dX7_kindOfSign_455 (by decide) ?_
    exact zr_iret X J hf dX7_kindOfSign_456
  have hf := itn h45_ hf
  by_cases h46_ : a0_ = (79 : Int32)
  · have hf := itp h46_ hf
    rw [h46_]
    refine lv_tableIn hx hb dX7_kindOfSign_1 (by decide) (by decide) (tgt := 455) (by rfl) (by decide) ?_
    refine lv_iconst (v := (-1 : Int32)) hx hb dX7_kindOfSign_455 (by decide) ?_
    exact zr_iret X J hf dX7_kindOfSign_456
  have hf := itn h46_ hf
  by_cases h47_ : a0_ = (80 : Int32)
  · have hf := itp h47_ hf
    rw [h47_]
    refine lv_tableIn hx hb dX7_kindOfSign_1 (by decide) (by decide) (tgt := 455) (by rfl) (by decide) ?_
    refine lv_iconst (v := (-1 : Int32)) hx hb dX7_kindOfSign_455 (by decide) ?_
    exact zr_iret X J hf dX7_kindOfSign_456
  have hf := itn h47_ hf
  by_cases h48_ : a0_ = (81 : Int32)
  · have hf := itp h48_ hf
    rw [h48_]
    refine lv_tableIn hx hb dX7_kindOfSign_1 (by decide) (by decide) (tgt := 455) (by rfl) (by decide) ?_
    refine lv_iconst (v := (-1 : Int32)) hx hb dX7_kindOfSign_455 (by decide) ?_
    exact zr_iret X J hf dX7_kindOfSign_456
  have hf := itn h48_ hf
  by_cases h49_ : a0_ = (82 : Int32)
  · have hf := itp h49_ hf
    rw [h49_]
    refine lv_tableIn hx hb dX7_kindOfSign_1 (by decide) (by decide) (tgt := 455) (by rfl) (by decide) ?_
    refine lv_iconst (v := (-1 : Int32)) hx hb dX7_kindOfSign_455 (by decide) ?_
    exact zr_iret X J hf dX7_kindOfSign_456
  have hf := itn h49_ hf
  by_cases h50_ : a0_ = (83 : Int32)
  · have hf := itp h50_ hf
    rw [h50_]
    refine lv_tableIn hx hb dX7_kindOfSign_1 (by decide) (by decide) (tgt := 455) (by rfl) (by decide) ?_
    refine lv_iconst (v := (-1 : Int32)) hx hb dX7_kindOfSign_455 (by decide) ?_
    exact zr_iret X J hf dX7_kindOfSign_456
  have hf := itn h50_ hf
  by_cases h51_ : a0_ = (84 : Int32)
  · have hf := itp h51_ hf
    rw [h51_]
    refine lv_tableIn hx hb dX7_kindOfSign_1 (by decide) (by decide) (tgt := 455) (by rfl) (by decide) ?_
    refine lv_iconst (v := (-1 : Int32)) hx hb dX7_kindOfSign_455 (by decide) ?_
    exact zr_iret X J hf dX7_kindOfSign_456
  have hf := itn h51_ hf
  by_cases h52_ : a0_ = (85 : Int32)
  · have hf := itp h52_ hf
    rw [h52_]
    refine lv_tableIn hx hb dX7_kindOfSign_1 (by decide) (by decide) (tgt := 455) (by rfl) (by decide) ?_
    refine lv_iconst (v := (-1 : Int32)) hx hb dX7_kindOfSign_455 (by decide) ?_
    exact zr_iret X J hf dX7_kindOfSign_456
  have hf := itn h52_ hf
  by_cases h53_ : a0_ = (86 : Int32)
  · have hf := itp h53_ hf
    rw [h53_]
    refine lv_tableIn hx hb dX7_kindOfSign_1 (by decide) (by decide) (tgt := 455) (by rfl) (by decide) ?_
    refine lv_iconst (v := (-1 : Int32)) hx hb dX7_kindOfSign_455 (by decide) ?_
    exact zr_iret X J hf dX7_kindOfSign_456
  have hf := itn h53_ hf
  by_cases h54_ : a0_ = (87 : Int32)
  · have hf := itp h54_ hf
    rw [h54_]
    refine lv_tableIn hx hb dX7_kindOfSign_1 (by decide) (by decide) (tgt := 455) (by rfl) (by decide) ?_
    refine lv_iconst (v := (-1 : Int32)) hx hb dX7_kindOfSign_455 (by decide) ?_
    exact zr_iret X J hf dX7_kindOfSign_456
  have hf := itn h54_ hf
  by_cases h55_ : a0_ = (88 : Int32)
  · have hf := itp h55_ hf
    rw [h55_]
    refine lv_tableIn hx hb dX7_kindOfSign_1 (by decide) (by decide) (tgt := 455) (by rfl) (by decide) ?_
    refine lv_iconst (v := (-1 : Int32)) hx hb dX7_kindOfSign_455 (by decide) ?_
    exact zr_iret X J hf dX7_kindOfSign_456
  have hf := itn h55_ hf
  by_cases h56_ : a0_ = (89 : Int32)
  · have hf := itp h56_ hf
    rw [h56_]
    refine lv_tableIn hx hb dX7_kindOfSign_1 (by decide) (by decide) (tgt := 455) (by rfl) (by decide) ?_
    refine lv_iconst (v := (-1 : Int32)) hx hb dX7_kindOfSign_455 (by decide) ?_
    exact zr_iret X J hf dX7_kindOfSign_456
  have hf := itn h56_ hf
  by_cases h57_ : a0_ = (90 : Int32)
  · have hf := itp h57_ hf
    rw [h57_]
    refine lv_tableIn hx hb dX7_kindOfSign_1 (by decide) (by decide) (tgt := 455) (by rfl) (by decide) ?_
    refine lv_iconst (v := (-1 : Int32)) hx hb dX7_kindOfSign_455 (by decide) ?_
    exact zr_iret X J hf dX7_kindOfSign_456
  have hf := itn h57_ hf
  by_cases h58_ : a0_ = (91 : Int32)
  · have hf := itp h58_ hf
    rw [h58_]
    refine lv_tableIn hx hb dX7_kindOfSign_1 (by decide) (by decide) (tgt := 404) (by rfl) (by decide) ?_
    refine lv_bipush (v := (53 : Int32)) hx hb dX7_kindOfSign_404 (by decide) ?_
    exact zr_iret X J hf dX7_kindOfSign_406
  have hf := itn h58_ hf
  by_cases h59_ : a0_ = (92 : Int32)
  · have hf := itp h59_ hf
    rw [h59_]
    refine lv_tableIn hx hb dX7_kindOfSign_1 (by decide) (by decide) (tgt := 455) (by rfl) (by decide) ?_
    refine lv_iconst (v := (-1 : Int32)) hx hb dX7_kindOfSign_455 (by decide) ?_
    exact zr_iret X J hf dX7_kindOfSign_456
  have hf := itn h59_ hf
  by_cases h60_ : a0_ = (93 : Int32)
  · have hf := itp h60_ hf
    rw [h60_]
    refine lv_tableIn hx hb dX7_kindOfSign_1 (by decide) (by decide) (tgt := 407) (by rfl) (by decide) ?_
    refine lv_bipush (v := (54 : Int32)) hx hb dX7_kindOfSign_407 (by decide) ?_
    exact zr_iret X J hf dX7_kindOfSign_409
  have hf := itn h60_ hf
  by_cases h61_ : a0_ = (94 : Int32)
  · have hf := itp h61_ hf
    rw [h61_]
    refine lv_tableIn hx hb dX7_kindOfSign_1 (by decide) (by decide) (tgt := 422) (by rfl) (by decide) ?_
    refine lv_bipush (v := (11 : Int32)) hx hb dX7_kindOfSign_422 (by decide) ?_
    exact zr_iret X J hf dX7_kindOfSign_424
  have hf := itn h61_ hf
  by_cases h62_ : a0_ = (95 : Int32)
  · have hf := itp h62_ hf
    rw [h62_]
    refine lv_tableIn hx hb dX7_kindOfSign_1 (by decide) (by decide) (tgt := 455) (by rfl) (by decide) ?_
    refine lv_iconst (v := (-1 : Int32)) hx hb dX7_kindOfSign_455 (by decide) ?_
    exact zr_iret X J hf dX7_kindOfSign_456
  have hf := itn h62_ hf
  by_cases h63_ : a0_ = (96 : Int32)
  · have hf := itp h63_ hf
    rw [h63_]
    refine lv_tableIn hx hb dX7_kindOfSign_1 (by decide) (by decide) (tgt := 455) (by rfl) (by decide) ?_
    refine lv_iconst (v := (-1 : Int32)) hx hb dX7_kindOfSign_455 (by decide) ?_
    exact zr_iret X J hf dX7_kindOfSign_456
  have hf := itn h63_ hf
  by_cases h64_ : a0_ = (97 : Int32)
  · have hf := itp h64_ hf
    rw [h64_]
    refine lv_tableIn hx hb dX7_kindOfSign_1 (by decide) (by decide) (tgt := 455) (by rfl) (by decide) ?_
    refine lv_iconst (v := (-1 : Int32)) hx hb dX7_kindOfSign_455 (by decide) ?_
    exact zr_iret X J hf dX7_kindOfSign_456
  have hf := itn h64_ hf
  by_cases h65_ : a0_ = (98 : Int32)
  · have hf := itp h65_ hf
    rw [h65_]
    refine lv_tableIn hx hb dX7_kindOfSign_1 (by decide) (by decide) (tgt := 455) (by rfl) (by decide) ?_
    refine lv_iconst (v := (-1 : Int32)) hx hb dX7_kindOfSign_455 (by decide) ?_
    exact zr_iret X J hf dX7_kindOfSign_456
  have hf := itn h65_ hf
  by_cases h66_ : a0_ = (99 : Int32)
  · have hf := itp h66_ hf
    rw [h66_]
    refine lv_tableIn hx hb dX7_kindOfSign_1 (by decide) (by decide) (tgt := 455) (by rfl) (by decide) ?_
    refine lv_iconst (v := (-1 : Int32)) hx hb dX7_kindOfSign_455 (by decide) ?_
    exact zr_iret X J hf dX7_kindOfSign_456
  have hf := itn h66_ hf
  by_cases h67_ : a0_ = (100 : Int32)
  · have hf := itp h67_ hf
    rw [h67_]
    refine lv_tableIn hx hb dX7_kindOfSign_1 (by decide) (by decide) (tgt := 455) (by rfl) (by decide) ?_
    refine lv_iconst (v := (-1 : Int32)) hx hb dX7_kindOfSign_455 (by decide) ?_
    exact zr_iret X J hf dX7_kindOfSign_456
  have hf := itn h67_ hf
  by_cases h68_ : a0_ = (101 : Int32)
  · have hf := itp h68_ hf
    rw [h68_]
    refine lv_tableIn hx hb dX7_kindOfSign_1 (by decide) (by decide) (tgt := 455) (by rfl) (by decide) ?_
    refine lv_iconst (v := (-1 : Int32)) hx hb dX7_kindOfSign_455 (by decide) ?_
    exact zr_iret X J hf dX7_kindOfSign_456
  have hf := itn h68_ hf
  by_cases h69_ : a0_ = (102 : Int32)
  · have hf := itp h69_ hf
    rw [h69_]
    refine lv_tableIn hx hb dX7_kindOfSign_1 (by decide) (by decide) (tgt := 455) (by rfl) (by decide) ?_
    refine lv_iconst (v := (-1 : Int32)) hx hb dX7_kindOfSign_455 (by decide) ?_
    exact zr_iret X J hf dX7_kindOfSign_456
  have hf := itn h69_ hf
  by_cases h70_ : a0_ = (103 : Int32)
  · have hf := itp h70_ hf
    rw [h70_]
    refine lv_tableIn hx hb dX7_kindOfSign_1 (by decide) (by decide) (tgt := 455) (by rfl) (by decide) ?_
    refine lv_iconst (v := (-1 : Int32)) hx hb dX7_kindOfSign_455 (by decide) ?_
    exact zr_iret X J hf dX7_kindOfSign_456
  have hf := itn h70_ hf
  by_cases h71_ : a0_ = (104 : Int32)
  · have hf := itp h71_ hf
    rw [h71_]
    refine lv_tableIn hx hb dX7_kindOfSign_1 (by decide) (by decide) (tgt := 455) (by rfl) (by decide) ?_
    refine lv_iconst (v := (-1 : Int32)) hx hb dX7_kindOfSign_455 (by decide) ?_
    exact zr_iret X J hf dX7_kindOfSign_456
  have hf := itn h71_ hf
  by_cases h72_ : a0_ = (105 : Int32)
  · have hf := itp h72_ hf
    rw [h72_]
    refine lv_tableIn hx hb dX7_kindOfSign_1 (by decide) (by decide) (tgt := 455) (by rfl) (by decide) ?_
    refine lv_iconst (v := (-1 : Int32)) hx hb dX7_kindOfSign_455 (by decide) ?_
    exact zr_iret X J hf dX7_kindOfSign_456
  have hf := itn h72_ hf
  by_cases h73_ : a0_ = (106 : Int32)
  · have hf := itp h73_ hf
    rw [h73_]
    refine lv_tableIn hx hb dX7_kindOfSign_1 (by decide) (by decide) (tgt := 455) (by rfl) (by decide) ?_
    refine lv_iconst (v := (-1 : Int32)) hx hb dX7_kindOfSign_455 (by decide) ?_
    exact zr_iret X J hf dX7_kindOfSign_456
  have hf := itn h73_ hf
  by_cases h74_ : a0_ = (107 : Int32)
  · have hf := itp h74_ hf
    rw [h74_]
    refine lv_tableIn hx hb dX7_kindOfSign_1 (by decide) (by decide) (tgt := 455) (by rfl) (by decide) ?_
    refine lv_iconst (v := (-1 : Int32)) hx hb dX7_kindOfSign_455 (by decide) ?_
    exact zr_iret X J hf dX7_kindOfSign_456
  have hf := itn h74_ hf
  by_cases h75_ : a0_ = (108 : Int32)
  · have hf := itp h75_ hf
    rw [h75_]
    refine lv_tableIn hx hb dX7_kindOfSign_1 (by decide) (by decide) (tgt := 455) (by rfl) (by decide) ?_
    refine lv_iconst (v := (-1 : Int32)) hx hb dX7_kindOfSign_455 (by decide) ?_
    exact zr_iret X J hf dX7_kindOfSign_456
  have hf := itn h75_ hf
  by_cases h76_ : a0_ = (109 : Int32)
  · have hf := itp h76_ hf
    rw [h76_]
    refine lv_tableIn hx hb dX7_kindOfSign_1 (by decide) (by decide) (tgt := 455) (by rfl) (by decide) ?_
    refine lv_iconst (v := (-1 : Int32)) hx hb dX7_kindOfSign_455 (by decide) ?_
    exact zr_iret X J hf dX7_kindOfSign_456
  have hf := itn h76_ hf
  by_cases h77_ : a0_ = (110 : Int32)
  · have hf := itp h77_ hf
    rw [h77_]
    refine lv_tableIn hx hb dX7_kindOfSign_1 (by decide) (by decide) (tgt := 455) (by rfl) (by decide) ?_
    refine lv_iconst (v := (-1 : Int32)) hx hb dX7_kindOfSign_455 (by decide) ?_
    exact zr_iret X J hf dX7_kindOfSign_456
  have hf := itn h77_ hf
  by_cases h78_ : a0_ = (111 : Int32)
  · have hf := itp h78_ hf
    rw [h78_]
    refine lv_tableIn hx hb dX7_kindOfSign_1 (by decide) (by decide) (tgt := 455) (by rfl) (by decide) ?_
    refine lv_iconst (v := (-1 : Int32)) hx hb dX7_kindOfSign_455 (by decide) ?_
    exact zr_iret X J hf dX7_kindOfSign_456
  have hf := itn h78_ hf
  by_cases h79_ : a0_ = (112 : Int32)
  · have hf := itp h79_ hf
    rw [h79_]
    refine lv_tableIn hx hb dX7_kindOfSign_1 (by decide) (by decide) (tgt := 455) (by rfl) (by decide) ?_
    refine lv_iconst (v := (-1 : Int32)) hx hb dX7_kindOfSign_455 (by decide) ?_
    exact zr_iret X J hf dX7_kindOfSign_456
  have hf := itn h79_ hf
  by_cases h80_ : a0_ = (113 : Int32)
  · have hf := itp h80_ hf
    rw [h80_]
    refine lv_tableIn hx hb dX7_kindOfSign_1 (by decide) (by decide) (tgt := 455) (by rfl) (by decide) ?_
    refine lv_iconst (v := (-1 : Int32)) hx hb dX7_kindOfSign_455 (by decide) ?_
    exact zr_iret X J hf dX7_kindOfSign_456
  have hf := itn h80_ hf
  by_cases h81_ : a0_ = (114 : Int32)
  · have hf := itp h81_ hf
    rw [h81_]
    refine lv_tableIn hx hb dX7_kindOfSign_1 (by decide) (by decide) (tgt := 455) (by rfl) (by decide) ?_
    refine lv_iconst (v := (-1 : Int32)) hx hb dX7_kindOfSign_455 (by decide) ?_
    exact zr_iret X J hf dX7_kindOfSign_456
  have hf := itn h81_ hf
  by_cases h82_ : a0_ = (115 : Int32)
  · have hf := itp h82_ hf
    rw [h82_]
    refine lv_tableIn hx hb dX7_kindOfSign_1 (by decide) (by decide) (tgt := 455) (by rfl) (by decide) ?_
    refine lv_iconst (v := (-1 : Int32)) hx hb dX7_kindOfSign_455 (by decide) ?_
    exact zr_iret X J hf dX7_kindOfSign_456
  have hf := itn h82_ hf
  by_cases h83_ : a0_ = (116 : Int32)
  · have hf := itp h83_ hf
    rw [h83_]
    refine lv_tableIn hx hb dX7_kindOfSign_1 (by decide) (by decide) (tgt := 455) (by rfl) (by decide) ?_
    refine lv_iconst (v := (-1 : Int32)) hx hb dX7_kindOfSign_455 (by decide) ?_
    exact zr_iret X J hf dX7_kindOfSign_456
  have hf := itn h83_ hf
  by_cases h84_ : a0_ = (117 : Int32)
  · have hf := itp h84_ hf
    rw [h84_]
    refine lv_tableIn hx hb dX7_kindOfSign_1 (by decide) (by decide) (tgt := 455) (by rfl) (by decide) ?_
    refine lv_iconst (v := (-1 : Int32)) hx hb dX7_kindOfSign_455 (by decide) ?_
    exact zr_iret X J hf dX7_kindOfSign_456
  have hf := itn h84_ hf
  by_cases h85_ : a0_ = (118 : Int32)
  · have hf := itp h85_ hf
    rw [h85_]
    refine lv_tableIn hx hb dX7_kindOfSign_1 (by decide) (by decide) (tgt := 455) (by rfl) (by decide) ?_
    refine lv_iconst (v := (-1 : Int32)) hx hb dX7_kindOfSign_455 (by decide) ?_
    exact zr_iret X J hf dX7_kindOfSign_456
  have hf := itn h85_ hf
  by_cases h86_ : a0_ = (119 : Int32)
  · have hf := itp h86_ hf
    rw [h86_]
    refine lv_tableIn hx hb dX7_kindOfSign_1 (by decide) (by decide) (tgt := 455) (by rfl) (by decide) ?_
    refine lv_iconst (v := (-1 : Int32)) hx hb dX7_kindOfSign_455 (by decide) ?_
    exact zr_iret X J hf dX7_kindOfSign_456
  have hf := itn h86_ hf
  by_cases h87_ : a0_ = (120 : Int32)
  · have hf := itp h87_ hf
    rw [h87_]
    refine lv_tableIn hx hb dX7_kindOfSign_1 (by decide) (by decide) (tgt := 455) (by rfl) (by decide) ?_
    refine lv_iconst (v := (-1 : Int32)) hx hb dX7_kindOfSign_455 (by decide) ?_
    exact zr_iret X J hf dX7_kindOfSign_456
  have hf := itn h87_ hf
  by_cases h88_ : a0_ = (121 : Int32)
  · have hf := itp h88_ hf
    rw [h88_]
    refine lv_tableIn hx hb dX7_kindOfSign_1 (by decide) (by decide) (tgt := 455) (by rfl) (by decide) ?_
    refine lv_iconst (v := (-1 : Int32)) hx hb dX7_kindOfSign_455 (by decide) ?_
    exact zr_iret X J hf dX7_kindOfSign_456
  have hf := itn h88_ hf
  by_cases h89_ : a0_ = (122 : Int32)
  · have hf := itp h89_ hf
    rw [h89_]
    refine lv_tableIn hx hb dX7_kindOfSign_1 (by decide) (by decide) (tgt := 455) (by rfl) (by decide) ?_
    refine lv_iconst (v := (-1 : Int32)) hx hb dX7_kindOfSign_455 (by decide) ?_
    exact zr_iret X J hf dX7_kindOfSign_456
  have hf := itn h89_ hf
  by_cases h90_ : a0_ = (123 : Int32)
  · have hf := itp h90_ hf
    rw [h90_]
    refine lv_tableIn hx hb dX7_kindOfSign_1 (by decide) (by decide) (tgt := 398) (by rfl) (by decide) ?_
    refine lv_bipush (v := (51 : Int32)) hx hb dX7_kindOfSign_398 (by decide) ?_
    exact zr_iret X J hf dX7_kindOfSign_400
  have hf := itn h90_ hf
  by_cases h91_ : a0_ = (124 : Int32)
  · have hf := itp h91_ hf
    rw [h91_]
    refine lv_tableIn hx hb dX7_kindOfSign_1 (by decide) (by decide) (tgt := 419) (by rfl) (by decide) ?_
    refine lv_bipush (v := (10 : Int32)) hx hb dX7_kindOfSign_419 (by decide) ?_
    exact zr_iret X J hf dX7_kindOfSign_421
  have hf := itn h91_ hf
  by_cases h92_ : a0_ = (125 : Int32)
  · have hf := itp h92_ hf
    rw [h92_]
    refine lv_tableIn hx hb dX7_kindOfSign_1 (by decide) (by decide) (tgt := 401) (by rfl) (by decide) ?_
    refine lv_bipush (v := (52 : Int32)) hx hb dX7_kindOfSign_401 (by decide) ?_
    exact zr_iret X J hf dX7_kindOfSign_403
  have hf := itn h92_ hf
  by_cases h93_ : a0_ = (126 : Int32)
  · have hf := itp h93_ hf
    rw [h93_]
    refine lv_tableIn hx hb dX7_kindOfSign_1 (by decide) (by decide) (tgt := 452) (by rfl) (by decide) ?_
    refine lv_bipush (v := (26 : Int32)) hx hb dX7_kindOfSign_452 (by decide) ?_
    exact zr_iret X J hf dX7_kindOfSign_454
  have hf := itn h93_ hf
  refine lv_tableOut hx hb dX7_kindOfSign_1 (tgt := 455) (by have := lv_neT h0_ (a := 33) (by decide); have := lv_neT h1_ (a := 34) (by decide); have := lv_neT h2_ (a := 35) (by decide); have := lv_neT h3_ (a := 36) (by decide); have := lv_neT h4_ (a := 37) (by decide); have := lv_neT h5_ (a := 38) (by decide); have := lv_neT h6_ (a := 39) (by decide); have := lv_neT h7_ (a := 40) (by decide); have := lv_neT h8_ (a := 41) (by decide); have := lv_neT h9_ (a := 42) (by decide); have := lv_neT h10_ (a := 43) (by decide); have := lv_neT h11_ (a := 44) (by decide); have := lv_neT h12_ (a := 45) (by decide); have := lv_neT h13_ (a := 46) (by decide); have := lv_neT h14_ (a := 47) (by decide); have := lv_neT h15_ (a := 48) (by decide); have := lv_neT h16_ (a := 49) (by decide); have := lv_neT h17_ (a := 50) (by decide); have := lv_neT h18_ (a := 51) (by decide); have := lv_neT h19_ (a := 52) (by decide); have := lv_neT h20_ (a := 53) (by decide); have := lv_neT h21_ (a := 54) (by decide); have := lv_neT h22_ (a := 55) (by decide); have := lv_neT h23_ (a := 56) (by decide); have := lv_neT h24_ (a := 57) (by decide); have := lv_neT h25_ (a := 58) (by decide); have := lv_neT h26_ (a := 59) (by decide); have := lv_neT h27_ (a := 60) (by decide); have := lv_neT h28_ (a := 61) (by decide); have := lv_neT h29_ (a := 62) (by decide); have := lv_neT h30_ (a := 63) (by decide); have := lv_neT h31_ (a := 64) (by decide); have := lv_neT h32_ (a := 65) (by decide); have := lv_neT h33_ (a := 66) (by decide); have := lv_neT h34_ (a := 67) (by decide); have := lv_neT h35_ (a := 68) (by decide); have := lv_neT h36_ (a := 69) (by decide); have := lv_neT h37_ (a := 70) (by decide); have := lv_neT h38_ (a := 71) (by decide); have := lv_neT h39_ (a := 72) (by decide); have := lv_neT h40_ (a := 73) (by decide); have := lv_neT h41_ (a := 74) (by decide); have := lv_neT h42_ (a := 75) (by decide); have := lv_neT h43_ (a := 76) (by decide); have := lv_neT h44_ (a := 77) (by decide); have := lv_neT h45_ (a := 78) (by decide); have := lv_neT h46_ (a := 79) (by decide); have := lv_neT h47_ (a := 80) (by decide); have := lv_neT h48_ (a := 81) (by decide); have := lv_neT h49_ (a := 82) (by decide); have := lv_neT h50_ (a := 83) (by decide); have := lv_neT h51_ (a := 84) (by decide); have := lv_neT h52_ (a := 85) (by decide); have := lv_neT h53_ (a := 86) (by decide); have := lv_neT h54_ (a := 87) (by decide); have := lv_neT h55_ (a := 88) (by decide); have := lv_neT h56_ (a := 89) (by decide); have := lv_neT h57_ (a := 90) (by decide); have := lv_neT h58_ (a := 91) (by decide); have := lv_neT h59_ (a := 92) (by decide); have := lv_neT h60_ (a := 93) (by decide); have := lv_neT h61_ (a := 94) (by decide); have := lv_neT h62_ (a := 95) (by decide); have := lv_neT h63_ (a := 96) (by decide); have := lv_neT h64_ (a := 97) (by decide); have := lv_neT h65_ (a := 98) (by decide); have := lv_neT h66_ (a := 99) (by decide); have := lv_neT h67_ (a := 100) (by decide); have := lv_neT h68_ (a := 101) (by decide); have := lv_neT h69_ (a := 102) (by decide); have := lv_neT h70_ (a := 103) (by decide); have := lv_neT h71_ (a := 104) (by decide); have := lv_neT h72_ (a := 105) (by decide); have := lv_neT h73_ (a := 106) (by decide); have := lv_neT h74_ (a := 107) (by decide); have := lv_neT h75_ (a := 108) (by decide); have := lv_neT h76_ (a := 109) (by decide); have := lv_neT h77_ (a := 110) (by decide); have := lv_neT h78_ (a := 111) (by decide); have := lv_neT h79_ (a := 112) (by decide); have := lv_neT h80_ (a := 113) (by decide); have := lv_neT h81_ (a := 114) (by decide); have := lv_neT h82_ (a := 115) (by decide); have := lv_neT h83_ (a := 116) (by decide); have := lv_neT h84_ (a := 117) (by decide); have := lv_neT h85_ (a := 118) (by decide); have := lv_neT h86_ (a := 119) (by decide); have := lv_neT h87_ (a := 120) (by decide); have := lv_neT h88_ (a := 121) (by decide); have := lv_neT h89_ (a := 122) (by decide); have := lv_neT h90_ (a := 123) (by decide); have := lv_neT h91_ (a := 124) (by decide); have := lv_neT h92_ (a := 125) (by decide); have := lv_neT h93_ (a := 126) (by decide); omega) (by decide) ?_
  refine lv_iconst (v := (-1 : Int32)) hx hb dX7_kindOfSign_455 (by decide) ?_
  exact zr_iret X J hf dX7_kindOfSign_456
set_option maxHeartbeats 4000000 in
theorem bX7_fail_17 {o : Unit × zSt} (X : zX p s m args meth c D cy shC ad ts cX7_fail 3 none RX7)    {σ : zSt} {H : Heap} {locs : List Loc} {ls : Array Slot} (J : zJ D cy shC ad ln s σ H locs) (hl : lv_has ls 3 [(0, .ref (ad 1))]) (hf : fX7_fail_b17 ln N M   σ = some o) : W p l e (zRm (0)) s m args below meth c H locs 0 0 (zQv D cy shC ad ts ln below args s o) (F0 m 17 ls []) := by
  have hx := X.1
  have hb := X.2.1
  unfold fX7_fail_b17 at hf
  refine lv_aload_n hx hb dX7_fail_17 rfl (lv_at hl 0 rfl) ?_
  refine lv_iconst (v := (-1 : Int32)) hx hb dX7_fail_18 (by decide) ?_
  refine pf_X7_28 X J dX7_fail_19 (fun σ1 H locs eq J => ?_)
  have hf := bnd_eq eq hf
  clear eq
  exact zr_vret X J hf dX7_fail_22
set_option maxHeartbeats 4000000 in
theorem tX7_fail {a1_ : Int32} {a2_ : Int32}  {σ u : zSt} {r : Unit} (hf : fX7_fail ln N M a1_ a2_ σ = some (r, u)) : zMv l yX7_fail cX7_fail 3 none (0) D cy shC ad ts ln [.ref (ad 1), .int a1_, .int a2_] σ u := by
  refine zM_of (by decide) (Nat.le_of_ble_eq_true rfl) (fun p e s m args below meth c ls ha X J hl => ?_)
  have hx := X.1
  have hb := X.2.1
  have hl : lv_has ls 3 [(0, .ref (ad 1)), (1, .int a1_), (2, .int a2_)] := hl
  generalize s.heap = H at J ⊢
  generalize ([] : List Loc) = locs at J ⊢
  show W p l e (zRm (0)) s m args below meth c H locs 0 0 (zQv D cy shC ad ts ln below args s (r, u)) (F0 m 0 ls [])
  unfold fX7_fail at hf
  refine lv_aload_n hx hb dX7_fail_0 rfl (lv_at hl 0 rfl) ?_
  refine gf_X7_19 X J dX7_fail_1 ?_
  refine lv_if_ne hx hb dX7_fail_4 rfl (fun h => ?_) (fun h => ?_)
  · have hf := itn h hf
    exact bX7_fail_17 X   J (lv_sub hl [0] rfl) hf
  · have hf := itp h hf
    refine lv_aload_n hx hb dX7_fail_7 rfl (lv_at hl 0 rfl) ?_
    refine lv_iload_n hx hb dX7_fail_8 rfl (lv_at hl 1 rfl) ?_
    refine lv_bipush (v := (16 : Int32)) hx hb dX7_fail_9 (by decide) ?_
    refine lv_iload_n hx hb dX7_fail_11 rfl (lv_at hl 2 rfl) ?_
    refine lv_imul hx hb dX7_fail_12 ?_
    refine lv_iadd hx hb dX7_fail_13 ?_
    refine pf_X7_19 X J dX7_fail_14 (fun σ2 H locs eq J => ?_)
    have hf := bnd_eq eq hf
    clear eq
    exact bX7_fail_17 X   J (lv_sub hl [0] rfl) hf
set_option maxHeartbeats 4000000 in
theorem bX7_come_167 {o : Unit × zSt} (X : zX p s m args meth c D cy shC ad ts cX7_come 3 none RX7)    {σ : zSt} {H : Heap} {locs : List Loc} {ls : Array Slot} (J : zJ D cy shC ad ln s σ H locs) (hl : lv_has ls 3 [(0, .ref (ad 1))]) (hf : fX7_come_b167 ln N M   σ = some o) : W p l e (zRm (1)) s m args below meth c H locs 0 0 (zQv D cy shC ad ts ln below args s o) (F0 m 167 ls []) := by
  have hx := X.1
  have hb := X.2.1
  unfold fX7_come_b167 at hf
  refine lv_aload_n hx hb dX7_come_167 rfl (lv_at hl 0 rfl) ?_
  refine gf_X7_28 X J dX7_come_168 ?_
  refine lv_iconst (v := (-1 : Int32)) hx hb dX7_come_171 (by decide) ?_
  refine lv_icmp_ne hx hb dX7_come_172 rfl (fun h => ?_) (fun h => ?_)
  · have hf := itn h hf
    exact zr_vret X J hf dX7_come_184
  · have hf := itp h hf
    refine lv_aload_n hx hb dX7_come_175 rfl (lv_at hl 0 rfl) ?_
    refine lv_iconst (v := (1 : Int32)) hx hb dX7_come_176 (by decide) ?_
    refine lv_aload_n hx hb dX7_come_177 rfl (lv_at hl 0 rfl) ?_
    refine gf_X7_31 X J dX7_come_178 ?_
    obtain ⟨r14, σ15, hc, hf⟩ := obd_some hf
    refine zr_callv (As := [.int (1 : Int32), .int (zI σ 1 4)]) (rest := []) X J 1 ho_C_X7.1 ho_C_X7.2.1 ho_C_X7.2.2 yy_X7_fail mw_methodLink_TinyCScan_66_TinyCScan_fail_IIV (d := 0) (zR_ok (by omega) (by decide)) hl.1 rfl (Nat.le_of_ble_eq_true rfl) (tX7_fail  hc) dX7_come_181 (fun H locs J => ?_)
    exact zr_vret X J hf dX7_come_184
set_option maxHeartbeats 4000000 in
theorem bX7_come_164 {o : Unit × zSt} (X : zX p s m args meth c D cy shC ad ts cX7_come 3 none RX7)  {s0_ : Int32}  {σ : zSt} {H : Heap} {locs : List Loc} {ls : Array Slot} (J : zJ D cy shC ad ln s σ H locs) (hl : lv_has ls 3 [(0, .ref (ad 1))]) (hf : fX7_come_b164 ln N M  s0_ σ = some o) : W p l e (zRm (1)) s m args below meth c H locs 0 0 (zQv D cy shC ad ts ln below args s o) (F0 m 164 ls [.int s0_, .ref (ad 1)]) := by
  have hx := X.1
  have hb := X.2.1
  unfold fX7_come_b164 at hf
  refine pf_X7_28 X J dX7_come_164 (fun σ13 H locs eq J => ?_)
  have hf := bnd_eq eq hf
  clear eq
  exact bX7_come_167 X   J (lv_sub hl [0] rfl) hf
set_option maxHeartbeats 4000000 in
theorem bX7_come_140 {o : Unit × zSt} (X : zX p s m args meth c D cy shC ad ts cX7_come 3 none RX7)  {x1_ : Int32} {s0_ : Int32} {s1_ : Int32}  {σ : zSt} {H : Heap} {locs : List Loc} {ls : Array Slot} (J : zJ D cy shC ad ln s σ H locs) (hl : lv_has ls 3 [(0, .ref (ad 1)), (1, .int x1_)]) (hf : fX7_come_b140 ln N M  x1_ s0_ s1_ σ = some o) : W p l e (zRm (1)) s m args below meth c H locs 0 0 (zQv D cy shC ad ts ln below args s o) (F0 m 140 ls [.int s0_, .int s1_, .ref (ad 1)]) := by
  have hx := X.1
  have hb := X.2.1
  unfold fX7_come_b140 at hf
  refine lv_iadd hx hb dX7_come_140 ?_
  refine pf_X7_22 X J dX7_come_141 (fun σ12 H locs eq J => ?_)
  have hf := bnd_eq eq hf
  clear eq
  refine lv_aload_n hx hb dX7_come_144 rfl (lv_at hl 0 rfl) ?_
  refine lv_aload_n hx hb dX7_come_145 rfl (lv_at hl 0 rfl) ?_
  refine gf_X7_28 X J dX7_come_146 ?_
  refine lv_iconst (v := (-1 : Int32)) hx hb dX7_come_149 (by decide) ?_
  refine lv_icmp_ne hx hb dX7_come_150 rfl (fun h => ?_) (fun h => ?_)
  · have hf := itn h hf
    refine lv_aload_n hx hb dX7_come_160 rfl (lv_at hl 0 rfl) ?_
    refine gf_X7_28 X J dX7_come_161 ?_
    exact bX7_come_164 X   J (lv_sub hl [0] rfl) hf
  · have hf := itp h hf
    refine lv_iload_n hx hb dX7_come_153 rfl (lv_at hl 1 rfl) ?_
    obtain ⟨r16, σ17, hc, hf⟩ := obd_some hf
    refine zr_callSi (As := [.int x1_]) (rest := [.ref (ad 1)]) X J yy_X7_kindOfSign mw_methodLink_TinyCScan_62_TinyCScan_kindOfSign_II (d := 0) (zR_ok (by omega) (by decide)) hl.1 rfl (Nat.le_of_ble_eq_true rfl) (tX7_kindOfSign  hc) dX7_come_154 (fun H locs J => ?_)
    refine lv_goto hx hb dX7_come_157 rfl ?_
    exact bX7_come_164 X   J (lv_sub hl [0] rfl) hf
set_option maxHeartbeats 4000000 in
theorem bX7_come_76 {o : Unit × zSt} (X : zX p s m args meth c D cy shC ad ts cX7_come 3 none RX7)  {x1_ : Int32} {s0_ : Int32}  {σ : zSt} {H : Heap} {locs : List Loc} {ls : Array Slot} (J : zJ D cy shC ad ln s σ H locs) (hl : lv_has ls 3 [(0, .ref (ad 1)), (1, .int x1_)]) (hf : fX7_come_b76 ln N M  x1_ s0_ σ = some o) : W p l e (zRm (1)) s m args below meth c H locs 0 0 (zQv D cy shC ad ts ln below args s o) (F0 m 76 ls [.int s0_]) := by
  have hx := X.1
  have hb := X.2.1
  unfold fX7_come_b76 at hf
  refine lv_istore_n hx hb dX7_come_76 rfl hl (by decide) rfl (fun ls hl => ?_)
  have hl : lv_has ls 3 [(2, .int s0_), (0, .ref (ad 1)), (1, .int x1_)] := hl
  refine lv_iload_n hx hb dX7_come_77 rfl (lv_at hl 2 rfl) ?_
  obtain ⟨r5, σ6, hc, hf⟩ := obd_some hf
  refine zr_callSi (As := [.int x1_]) (rest := []) X J yy_X7_isDigit mw_methodLink_TinyCScan_44_TinyCScan_isDigit_IZ (d := 0) (zR_ok (by omega) (by decide)) hl.1 rfl (Nat.le_of_ble_eq_true rfl) (tX7_isDigit  hc) dX7_come_78 (fun H locs J => ?_)
  refine lv_if_eq hx hb dX7_come_81 rfl (fun h => ?_) (fun h => ?_)
  · have hf := itp h hf
    refine lv_iload_n hx hb dX7_come_95 rfl (lv_at hl 2 rfl) ?_
    obtain ⟨r7, σ8, hc, hf⟩ := obd_some hf
    refine zr_callSi (As := [.int x1_]) (rest := []) X J yy_X7_isLetter mw_methodLink_TinyCScan_52_TinyCScan_isLetter_IZ (d := 0) (zR_ok (by omega) (by decide)) hl.1 rfl (Nat.le_of_ble_eq_true rfl) (tX7_isLetter  hc) dX7_come_96 (fun H locs J => ?_)
    refine lv_if_eq hx hb dX7_come_99 rfl (fun h => ?_) (fun h => ?_)
    · have hf := itp h hf
      refine lv_aload_n hx hb dX7_come_113 rfl (lv_at hl 1 rfl) ?_
      refine lv_iload_n hx hb dX7_come_114 rfl (lv_at hl 2 rfl) ?_
      refine lv_iload_n hx hb dX7_come_115 rfl (lv_at hl 0 rfl) ?_
      obtain ⟨r9, σ10, hc, hf⟩ := obd_some hf
      refine zr_callSi (As := [.int x1_, .int s0_]) (rest := [.ref (ad 1)]) X J yy_X7_kindOfPair mw_methodLink_TinyCScan_58_TinyCScan_kindOfPair_III (d := 0) (zR_ok (by omega) (by decide)) hl.1 rfl (Nat.le_of_ble_eq_true rfl) (tX7_kindOfPair  hc) dX7_come_116 (fun H locs J => ?_)
      refine pf_X7_28 X J dX7_come_119 (fun σ11 H locs eq J => ?_)
      have hf := bnd_eq eq hf
      clear eq
      refine lv_aload_n hx hb dX7_come_122 rfl (lv_at hl 1 rfl) ?_
      refine lv_dup hx hb dX7_come_123 rfl ?_
      refine gf_X7_22 X J dX7_come_124 ?_
      refine lv_aload_n hx hb dX7_come_127 rfl (lv_at hl 1 rfl) ?_
      refine gf_X7_28 X J dX7_come_128 ?_
      refine lv_iconst (v := (-1 : Int32)) hx hb dX7_come_131 (by decide) ?_
      refine lv_icmp_ne hx hb dX7_come_132 rfl (fun h => ?_) (fun h => ?_)
      · have hf := itn h hf
        refine lv_iconst (v := (2 : Int32)) hx hb dX7_come_139 (by decide) ?_
        exact bX7_come_140 X   J (lv_sub hl [1, 2] rfl) hf
      · have hf := itp h hf
        refine lv_iconst (v := (1 : Int32)) hx hb dX7_come_135 (by decide) ?_
        refine lv_goto hx hb dX7_come_136 rfl ?_
        exact bX7_come_140 X   J (lv_sub hl [1, 2] rfl) hf
    · have hf := itn h hf
      refine lv_aload_n hx hb dX7_come_102 rfl (lv_at hl 1 rfl) ?_
      refine lv_aload_n hx hb dX7_come_103 rfl (lv_at hl 1 rfl) ?_
      obtain ⟨r18, σ19, hc, hf⟩ := obd_some hf
      refine zr_calli (As := []) (rest := [.ref (ad 1)]) X J 1 ho_C_X7.1 ho_C_X7.2.1 ho_C_X7.2.2 yy_X7_comeWord mw_methodLink_TinyCScan_55_TinyCScan_comeWord_I (d := 0) (zR_ok (by omega) (by decide)) hl.1 rfl (Nat.le_of_ble_eq_true rfl) (tX7_comeWord  hc) dX7_come_104 (fun H locs J => ?_)
      refine pf_X7_28 X J dX7_come_107 (fun σ20 H locs eq J => ?_)
      have hf := bnd_eq eq hf
      clear eq
      refine lv_goto hx hb dX7_come_110 rfl ?_
      exact bX7_come_167 X   J (lv_sub hl [1] rfl) hf
  · have hf := itn h hf
    refine lv_aload_n hx hb dX7_come_84 rfl (lv_at hl 1 rfl) ?_
    refine lv_aload_n hx hb dX7_come_85 rfl (lv_at hl 1 rfl) ?_
    obtain ⟨r21, σ22, hc, hf⟩ := obd_some hf
    refine zr_calli (As := []) (rest := [.ref (ad 1)]) X J 1 ho_C_X7.1 ho_C_X7.2.1 ho_C_X7.2.2 yy_X7_comeNumber mw_methodLink_TinyCScan_48_TinyCScan_comeNumber_I (d := 0) (zR_ok (by omega) (by decide)) hl.1 rfl (Nat.le_of_ble_eq_true rfl) (tX7_comeNumber  hc) dX7_come_86 (fun H locs J => ?_)
    refine pf_X7_28 X J dX7_come_89 (fun σ23 H locs eq J => ?_)
    have hf := bnd_eq eq hf
    clear eq
    refine lv_goto hx hb dX7_come_92 rfl ?_
    exact bX7_come_167 X   J (lv_sub hl [1] rfl) hf
set_option maxHeartbeats 4000000 in
theorem tX7_come   {σ u : zSt} {r : Unit} (hf : fX7_come ln N M  σ = some (r, u)) : zMv l yX7_come cX7_come 3 none (1) D cy shC ad ts ln [.ref (ad 1)] σ u := by
  refine zM_of (by decide) (Nat.le_of_ble_eq_true rfl) (fun p e s m args below meth c ls ha X J hl => ?_)
  have hx := X.1
  have hb := X.2.1
  have hl : lv_has ls 3 [(0, .ref (ad 1))] := hl
  generalize s.heap = H at J ⊢
  generalize ([] : List Loc) = locs at J ⊢
  show W p l e (zRm (1)) s m args below meth c H locs 0 0 (zQv D cy shC ad ts ln below args s (r, u)) (F0 m 0 ls [])
  unfold fX7_come at hf
  refine lv_aload_n hx hb dX7_come_0 rfl (lv_at hl 0 rfl) ?_
  refine gf_X7_19 X J dX7_come_1 ?_
  refine lv_if_eq hx hb dX7_come_4 rfl (fun h => ?_) (fun h => ?_)
  · have hf := itp h hf
    refine lv_aload_n hx hb dX7_come_8 rfl (lv_at hl 0 rfl) ?_
    obtain ⟨r1, σ2, hc, hf⟩ := obd_some hf
    refine zr_callv (As := []) (rest := []) X J 1 ho_C_X7.1 ho_C_X7.2.1 ho_C_X7.2.2 yy_X7_skipBlanks mw_methodLink_TinyCScan_41_TinyCScan_skipBlanks_V (d := 0) (zR_ok (by omega) (by decide)) hl.1 rfl (Nat.le_of_ble_eq_true rfl) (tX7_skipBlanks  hc) dX7_come_9 (fun H locs J => ?_)
    refine lv_aload_n hx hb dX7_come_12 rfl (lv_at hl 0 rfl) ?_
    refine lv_aload_n hx hb dX7_come_13 rfl (lv_at hl 0 rfl) ?_
    refine gf_X7_22 X J dX7_come_14 ?_
    refine pf_X7_31 X J dX7_come_17 (fun σ3 H locs eq J => ?_)
    have hf := bnd_eq eq hf
    clear eq
    refine lv_aload_n hx hb dX7_come_20 rfl (lv_at hl 0 rfl) ?_
    refine gf_X7_22 X J dX7_come_21 ?_
    refine lv_aload_n hx hb dX7_come_24 rfl (lv_at hl 0 rfl) ?_
    refine gf_X7_15 X J dX7_come_25 ?_
    refine lv_icmp_lt hx hb dX7_come_28 rfl (fun h => ?_) (fun h => ?_)
    · have hf := itp h hf
      refine lv_aload_n hx hb dX7_come_38 rfl (lv_at hl 0 rfl) ?_
      refine gf_X7_9 X J dX7_come_39 ?_
      refine lv_aload_n hx hb dX7_come_42 rfl (lv_at hl 0 rfl) ?_
      refine gf_X7_22 X J dX7_come_43 ?_
      obtain ⟨hin, hf⟩ := itx hf
      refine al_X7_X7f0 X J hin dX7_come_46 ?_
      refine lv_topi (fun x4 eq => ?_)
      have hf := bnd_eq eq hf
      clear eq
      refine lv_istore_n hx hb dX7_come_47 rfl hl (by decide) rfl (fun ls hl => ?_)
      have hl : lv_has ls 3 [(1, .int x4), (0, .ref (ad 1))] := hl
      refine lv_aload_n hx hb dX7_come_48 rfl (lv_at hl 1 rfl) ?_
      refine gf_X7_22 X J dX7_come_49 ?_
      refine lv_iconst (v := (1 : Int32)) hx hb dX7_come_52 (by decide) ?_
      refine lv_iadd hx hb dX7_come_53 ?_
      refine lv_aload_n hx hb dX7_come_54 rfl (lv_at hl 1 rfl) ?_
      refine gf_X7_15 X J dX7_come_55 ?_
      refine lv_icmp_ge hx hb dX7_come_58 rfl (fun h => ?_) (fun h => ?_)
      · have hf := itp h hf
        refine lv_iconst (v := (0 : Int32)) hx hb dX7_come_75 (by decide) ?_
        exact bX7_come_76 X   J (lv_sub hl [1, 0] rfl) hf
      · have hf := itn h hf
        refine lv_aload_n hx hb dX7_come_61 rfl (lv_at hl 1 rfl) ?_
        refine gf_X7_9 X J dX7_come_62 ?_
        refine lv_aload_n hx hb dX7_come_65 rfl (lv_at hl 1 rfl) ?_
        refine gf_X7_22 X J dX7_come_66 ?_
        refine lv_iconst (v := (1 : Int32)) hx hb dX7_come_69 (by decide) ?_
        refine lv_iadd hx hb dX7_come_70 ?_
        obtain ⟨hin, hf⟩ := itx hf
        refine al_X7_X7f0 X J hin dX7_come_71 ?_
        refine lv_goto hx hb dX7_come_72 rfl ?_
        exact bX7_come_76 X   J (lv_sub hl [1, 0] rfl) hf
    · have hf := itn h hf
      refine lv_aload_n hx hb dX7_come_31 rfl (lv_at hl 0 rfl) ?_
      refine lv_bipush (v := (58 : Int32)) hx hb dX7_come_32 (by decide) ?_
      refine pf_X7_28 X J dX7_come_34 (fun σ24 H locs eq J => ?_)
      have hf := bnd_eq eq hf
      clear eq
      exact zr_vret X J hf dX7_come_37
  · have hf := itn h hf
    exact zr_vret X J hf dX7_come_7
set_option maxHeartbeats 4000000 in
theorem tX7_begin   {σ u : zSt} {r : Unit} (hf : fX7_begin ln N M  σ = some (r, u)) : zMv l yX7_begin cX7_begin 1 none (2) D cy shC ad ts ln [.ref (ad 1)] σ u := by
  refine zM_of (by decide) (Nat.le_of_ble_eq_true rfl) (fun p e s m args below meth c ls ha X J hl => ?_)
  have hx := X.1
  have hb := X.2.1
  have hl : lv_has ls 1 [(0, .ref (ad 1))] := hl
  generalize s.heap = H at J ⊢
  generalize ([] : List Loc) = locs at J ⊢
  show W p l e (zRm (2)) s m args below meth c H locs 0 0 (zQv D cy shC ad ts ln below args s (r, u)) (F0 m 0 ls [])
  unfold fX7_begin at hf
  refine lv_aload_n hx hb dX7_begin_0 rfl (lv_at hl 0 rfl) ?_
  refine lv_iconst (v := (0 : Int32)) hx hb dX7_begin_1 (by decide) ?_
  refine pf_X7_19 X J dX7_begin_2 (fun σ1 H locs eq J => ?_)
  have hf := bnd_eq eq hf
  clear eq
  refine lv_aload_n hx hb dX7_begin_5 rfl (lv_at hl 0 rfl) ?_
  refine lv_iconst (v := (0 : Int32)) hx hb dX7_begin_6 (by decide) ?_
  refine pf_X7_22 X J dX7_begin_7 (fun σ2 H locs eq J => ?_)
  have hf := bnd_eq eq hf
  clear eq
  refine lv_aload_n hx hb dX7_begin_10 rfl (lv_at hl 0 rfl) ?_
  obtain ⟨r3, σ4, hc, hf⟩ := obd_some hf
  refine zr_callv (As := []) (rest := []) X J 1 ho_C_X7.1 ho_C_X7.2.1 ho_C_X7.2.2 yy_X7_come mw_methodLink_TinyCScan_25_TinyCScan_come_V (d := 1) (zR_ok (by omega) (by decide)) hl.1 rfl (Nat.le_of_ble_eq_true rfl) (tX7_come  hc) dX7_begin_11 (fun H locs J => ?_)
  exact zr_vret X J hf dX7_begin_14
end
