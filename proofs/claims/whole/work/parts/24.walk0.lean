section
variable {p : Program} {l : Launch} {e : Env} {s : State} {m : MethodId} {args : Array Value} {below : List Frame} {meth : Method} {c : Code} {D : va_G} {cy : Nat → ClassId} {ad ts : Nat → Nat} {N : Nat}
set_option maxHeartbeats 4000000 in
theorem tX12_cellsOf {a0_ : Int32}  {σ u : zSt} {r : Int32} (hf : fX12_cellsOf N a0_ σ = some (r, u)) : zMi l yX12_cellsOf cX12_cellsOf 1 (some .int) (0) D cy shR ad ts lnR [.int a0_] σ r u := by
  refine zM_of (by decide) (Nat.le_of_ble_eq_true rfl) (fun p e s m args below meth c ls ha X J hl => ?_)
  have hx := X.1
  have hb := X.2.1
  have hl : lv_has ls 1 [(0, .int a0_)] := hl
  generalize s.heap = H at J ⊢
  generalize ([] : List Loc) = locs at J ⊢
  show W p l e (zRm (0)) s m args below meth c H locs 0 0 (zQi D cy shR ad ts lnR below args s (r, u)) (F0 m 0 ls [])
  unfold fX12_cellsOf at hf
  refine lv_iload_n hx hb dX12_cellsOf_0 rfl (lv_at hl 0 rfl) ?_
  refine lv_if_ge hx hb dX12_cellsOf_1 rfl (fun h => ?_) (fun h => ?_)
  · have hf := itp h hf
    refine lv_iload_n hx hb dX12_cellsOf_8 rfl (lv_at hl 0 rfl) ?_
    refine lv_sipush (v := (4096 : Int32)) hx hb dX12_cellsOf_9 (by decide) ?_
    refine lv_icmp_le hx hb dX12_cellsOf_12 rfl (fun h => ?_) (fun h => ?_)
    · have hf := itp h hf
      refine lv_iload_n hx hb dX12_cellsOf_21 rfl (lv_at hl 0 rfl) ?_
      exact zr_iret X J hf dX12_cellsOf_22
    · have hf := itn h hf
      refine lv_sipush (v := (4096 : Int32)) hx hb dX12_cellsOf_15 (by decide) ?_
      refine lv_goto hx hb dX12_cellsOf_18 rfl ?_
      exact zr_iret X J hf dX12_cellsOf_22
  · have hf := itn h hf
    refine lv_iconst (v := (0 : Int32)) hx hb dX12_cellsOf_4 (by decide) ?_
    refine lv_goto hx hb dX12_cellsOf_5 rfl ?_
    exact zr_iret X J hf dX12_cellsOf_22
set_option maxHeartbeats 4000000 in
theorem tX12_feed {a1_ : Int32}  {σ u : zSt} {r : Int32} (hf : fX12_feed N a1_ σ = some (r, u)) : zMi l yX12_feed cX12_feed 2 (some .int) (0) D cy shR ad ts lnR [.ref (ad 0), .int a1_] σ r u := by
  refine zM_of (by decide) (Nat.le_of_ble_eq_true rfl) (fun p e s m args below meth c ls ha X J hl => ?_)
  have hx := X.1
  have hb := X.2.1
  have hl : lv_has ls 2 [(0, .ref (ad 0)), (1, .int a1_)] := hl
  generalize s.heap = H at J ⊢
  generalize ([] : List Loc) = locs at J ⊢
  show W p l e (zRm (0)) s m args below meth c H locs 0 0 (zQi D cy shR ad ts lnR below args s (r, u)) (F0 m 0 ls [])
  unfold fX12_feed at hf
  refine lv_aload_n hx hb dX12_feed_0 rfl (lv_at hl 0 rfl) ?_
  refine gf_X12_176 X J dX12_feed_1 ?_
  refine lv_aload_n hx hb dX12_feed_4 rfl (lv_at hl 0 rfl) ?_
  refine gf_X12_160 X J dX12_feed_5 ?_
  refine lv_icmp_ne hx hb dX12_feed_8 rfl (fun h => ?_) (fun h => ?_)
  · have hf := itn h hf
    refine lv_aload_n hx hb dX12_feed_13 rfl (lv_at hl 0 rfl) ?_
    refine gf_X12_7 X J dX12_feed_14 ?_
    refine lv_aload_n hx hb dX12_feed_17 rfl (lv_at hl 0 rfl) ?_
    refine gf_X12_176 X J dX12_feed_18 ?_
    refine lv_iload_n hx hb dX12_feed_21 rfl (lv_at hl 1 rfl) ?_
    obtain ⟨hin, hf⟩ := itx hf
    refine as_X12_X12f0 X J hin dX12_feed_22 (fun σ1 H locs eq J => ?_)
    have hf := bnd_eq eq hf
    clear eq
    refine lv_aload_n hx hb dX12_feed_23 rfl (lv_at hl 0 rfl) ?_
    refine lv_dup hx hb dX12_feed_24 rfl ?_
    refine gf_X12_176 X J dX12_feed_25 ?_
    refine lv_iconst (v := (1 : Int32)) hx hb dX12_feed_28 (by decide) ?_
    refine lv_iadd hx hb dX12_feed_29 ?_
    refine pf_X12_176 X J dX12_feed_30 (fun σ2 H locs eq J => ?_)
    have hf := bnd_eq eq hf
    clear eq
    refine lv_iconst (v := (0 : Int32)) hx hb dX12_feed_33 (by decide) ?_
    exact zr_iret X J hf dX12_feed_34
  · have hf := itp h hf
    refine lv_iconst (v := (1 : Int32)) hx hb dX12_feed_11 (by decide) ?_
    exact zr_iret X J hf dX12_feed_12
set_option maxHeartbeats 4000000 in
theorem tX12_wordOf {a0_ : Int32}  {σ u : zSt} {r : Int64} (hf : fX12_wordOf N a0_ σ = some (r, u)) : zMl l yX12_wordOf cX12_wordOf 1 (some .long) (0) D cy shR ad ts lnR [.int a0_] σ r u := by
  refine zM_of (by decide) (Nat.le_of_ble_eq_true rfl) (fun p e s m args below meth c ls ha X J hl => ?_)
  have hx := X.1
  have hb := X.2.1
  have hl : lv_has ls 1 [(0, .int a0_)] := hl
  generalize s.heap = H at J ⊢
  generalize ([] : List Loc) = locs at J ⊢
  show W p l e (zRm (0)) s m args below meth c H locs 0 0 (zQl D cy shR ad ts lnR below args s (r, u)) (F0 m 0 ls [])
  unfold fX12_wordOf at hf
  refine lv_iload_n hx hb dX12_wordOf_0 rfl (lv_at hl 0 rfl) ?_
  by_cases h0_ : a0_ = (0 : Int32)
  · have hf := itp h0_ hf
    rw [h0_]
    refine lv_tableIn hx hb dX12_wordOf_1 (by decide) (by decide) (tgt := 40) (by rfl) (by decide) ?_
    refine lv_ldc2 (v := (6909556 : Int64)) hx hb X.2.2.2.1 (X.2.2.2.2.1 _ mw_constantLong_TinyCModel_179) dX12_wordOf_40 ?_
    exact zr_lret X J hf dX12_wordOf_43
  have hf := itn h0_ hf
  by_cases h1_ : a0_ = (1 : Int32)
  · have hf := itp h1_ hf
    rw [h1_]
    refine lv_tableIn hx hb dX12_wordOf_1 (by decide) (by decide) (tgt := 44) (by rfl) (by decide) ?_
    refine lv_ldc2 (v := (26982 : Int64)) hx hb X.2.2.2.1 (X.2.2.2.2.1 _ mw_constantLong_TinyCModel_181) dX12_wordOf_44 ?_
    exact zr_lret X J hf dX12_wordOf_47
  have hf := itn h1_ hf
  by_cases h2_ : a0_ = (2 : Int32)
  · have hf := itp h2_ hf
    rw [h2_]
    refine lv_tableIn hx hb dX12_wordOf_1 (by decide) (by decide) (tgt := 48) (by rfl) (by decide) ?_
    refine lv_ldc2 (v := (1701606245 : Int64)) hx hb X.2.2.2.1 (X.2.2.2.2.1 _ mw_constantLong_TinyCModel_183) dX12_wordOf_48 ?_
    exact zr_lret X J hf dX12_wordOf_51
  have hf := itn h2_ hf
  by_cases h3_ : a0_ = (3 : Int32)
  · have hf := itp h3_ hf
    rw [h3_]
    refine lv_tableIn hx hb dX12_wordOf_1 (by decide) (by decide) (tgt := 52) (by rfl) (by decide) ?_
    refine lv_ldc2 (v := (512852847717 : Int64)) hx hb X.2.2.2.1 (X.2.2.2.2.1 _ mw_constantLong_TinyCModel_185) dX12_wordOf_52 ?_
    exact zr_lret X J hf dX12_wordOf_55
  have hf := itn h3_ hf
  by_cases h4_ : a0_ = (4 : Int32)
  · have hf := itp h4_ hf
    rw [h4_]
    refine lv_tableIn hx hb dX12_wordOf_1 (by decide) (by decide) (tgt := 56) (by rfl) (by decide) ?_
    refine lv_ldc2 (v := (125780071117422 : Int64)) hx hb X.2.2.2.1 (X.2.2.2.2.1 _ mw_constantLong_TinyCModel_187) dX12_wordOf_56 ?_
    exact zr_lret X J hf dX12_wordOf_59
  have hf := itn h4_ hf
  by_cases h5_ : a0_ = (5 : Int32)
  · have hf := itp h5_ hf
    rw [h5_]
    refine lv_tableIn hx hb dX12_wordOf_1 (by decide) (by decide) (tgt := 60) (by rfl) (by decide) ?_
    refine lv_ldc2 (v := (482955849332 : Int64)) hx hb X.2.2.2.1 (X.2.2.2.2.1 _ mw_constantLong_TinyCModel_189) dX12_wordOf_60 ?_
    exact zr_lret X J hf dX12_wordOf_63
  have hf := itn h5_ hf
  refine lv_tableOut hx hb dX12_wordOf_1 (tgt := 64) (by have := lv_neT h0_ (a := 0) (by decide); have := lv_neT h1_ (a := 1) (by decide); have := lv_neT h2_ (a := 2) (by decide); have := lv_neT h3_ (a := 3) (by decide); have := lv_neT h4_ (a := 4) (by decide); have := lv_neT h5_ (a := 5) (by decide); omega) (by decide) ?_
  refine lv_ldc2 (v := (1919246692 : Int64)) hx hb X.2.2.2.1 (X.2.2.2.2.1 _ mw_constantLong_TinyCModel_191) dX12_wordOf_64 ?_
  exact zr_lret X J hf dX12_wordOf_67
set_option maxHeartbeats 4000000 in
theorem bX12_isLetter_30 {o : Int32 × zSt} (X : zX p s m args meth c D cy shR ad ts cX12_isLetter 1 (some .boolean) RX12)    {σ : zSt} {H : Heap} {locs : List Loc} {ls : Array Slot} (J : zJ D cy shR ad lnR s σ H locs) (hl : lv_has ls 1 []) (hf : fX12_isLetter_b30 N   σ = some o) : W p l e (zRm (0)) s m args below meth c H locs 0 0 (zQi D cy shR ad ts lnR below args s o) (F0 m 30 ls []) := by
  have hx := X.1
  have hb := X.2.1
  unfold fX12_isLetter_b30 at hf
  refine lv_iconst (v := (1 : Int32)) hx hb dX12_isLetter_30 (by decide) ?_
  refine lv_goto hx hb dX12_isLetter_31 rfl ?_
  exact zr_zretc X J (by decide) hf dX12_isLetter_35
set_option maxHeartbeats 4000000 in
theorem bX12_isLetter_24 {o : Int32 × zSt} (X : zX p s m args meth c D cy shR ad ts cX12_isLetter 1 (some .boolean) RX12)  {x0_ : Int32}  {σ : zSt} {H : Heap} {locs : List Loc} {ls : Array Slot} (J : zJ D cy shR ad lnR s σ H locs) (hl : lv_has ls 1 [(0, .int x0_)]) (hf : fX12_isLetter_b24 N  x0_ σ = some o) : W p l e (zRm (0)) s m args below meth c H locs 0 0 (zQi D cy shR ad ts lnR below args s o) (F0 m 24 ls []) := by
  have hx := X.1
  have hb := X.2.1
  unfold fX12_isLetter_b24 at hf
  refine lv_iload_n hx hb dX12_isLetter_24 rfl (lv_at hl 0 rfl) ?_
  refine lv_bipush (v := (95 : Int32)) hx hb dX12_isLetter_25 (by decide) ?_
  refine lv_icmp_ne hx hb dX12_isLetter_27 rfl (fun h => ?_) (fun h => ?_)
  · have hf := itn h hf
    refine lv_iconst (v := (0 : Int32)) hx hb dX12_isLetter_34 (by decide) ?_
    exact zr_zretc X J (by decide) hf dX12_isLetter_35
  · have hf := itp h hf
    exact bX12_isLetter_30 X   J (lv_sub hl [] rfl) hf
set_option maxHeartbeats 4000000 in
theorem bX12_isLetter_12 {o : Int32 × zSt} (X : zX p s m args meth c D cy shR ad ts cX12_isLetter 1 (some .boolean) RX12)  {x0_ : Int32}  {σ : zSt} {H : Heap} {locs : List Loc} {ls : Array Slot} (J : zJ D cy shR ad lnR s σ H locs) (hl : lv_has ls 1 [(0, .int x0_)]) (hf : fX12_isLetter_b12 N  x0_ σ = some o) : W p l e (zRm (0)) s m args below meth c H locs 0 0 (zQi D cy shR ad ts lnR below args s o) (F0 m 12 ls []) := by
  have hx := X.1
  have hb := X.2.1
  unfold fX12_isLetter_b12 at hf
  refine lv_iload_n hx hb dX12_isLetter_12 rfl (lv_at hl 0 rfl) ?_
  refine lv_bipush (v := (65 : Int32)) hx hb dX12_isLetter_13 (by decide) ?_
  refine lv_icmp_lt hx hb dX12_isLetter_15 rfl (fun h => ?_) (fun h => ?_)
  · have hf := itp h hf
    exact bX12_isLetter_24 X   J (lv_sub hl [0] rfl) hf
  · have hf := itn h hf
    refine lv_iload_n hx hb dX12_isLetter_18 rfl (lv_at hl 0 rfl) ?_
    refine lv_bipush (v := (90 : Int32)) hx hb dX12_isLetter_19 (by decide) ?_
    refine lv_icmp_le hx hb dX12_isLetter_21 rfl (fun h => ?_) (fun h => ?_)
    · have hf := itp h hf
      exact bX12_isLetter_30 X   J (lv_sub hl [] rfl) hf
    · have hf := itn h hf
      exact bX12_isLetter_24 X   J (lv_sub hl [0] rfl) hf
set_option maxHeartbeats 4000000 in
theorem tX12_isLetter {a0_ : Int32}  {σ u : zSt} {r : Int32} (hf : fX12_isLetter N a0_ σ = some (r, u)) : zMi l yX12_isLetter cX12_isLetter 1 (some .boolean) (0) D cy shR ad ts lnR [.int a0_] σ r u := by
  refine zM_of (by decide) (Nat.le_of_ble_eq_true rfl) (fun p e s m args below meth c ls ha X J hl => ?_)
  have hx := X.1
  have hb := X.2.1
  have hl : lv_has ls 1 [(0, .int a0_)] := hl
  generalize s.heap = H at J ⊢
  generalize ([] : List Loc) = locs at J ⊢
  show W p l e (zRm (0)) s m args below meth c H locs 0 0 (zQi D cy shR ad ts lnR below args s (r, u)) (F0 m 0 ls [])
  unfold fX12_isLetter at hf
  refine lv_iload_n hx hb dX12_isLetter_0 rfl (lv_at hl 0 rfl) ?_
  refine lv_bipush (v := (97 : Int32)) hx hb dX12_isLetter_1 (by decide) ?_
  refine lv_icmp_lt hx hb dX12_isLetter_3 rfl (fun h => ?_) (fun h => ?_)
  · have hf := itp h hf
    exact bX12_isLetter_12 X   J (lv_sub hl [0] rfl) hf
  · have hf := itn h hf
    refine lv_iload_n hx hb dX12_isLetter_6 rfl (lv_at hl 0 rfl) ?_
    refine lv_bipush (v := (122 : Int32)) hx hb dX12_isLetter_7 (by decide) ?_
    refine lv_icmp_le hx hb dX12_isLetter_9 rfl (fun h => ?_) (fun h => ?_)
    · have hf := itp h hf
      exact bX12_isLetter_30 X   J (lv_sub hl [] rfl) hf
    · have hf := itn h hf
      exact bX12_isLetter_12 X   J (lv_sub hl [0] rfl) hf
set_option maxHeartbeats 4000000 in
theorem tX12_isDigit {a0_ : Int32}  {σ u : zSt} {r : Int32} (hf : fX12_isDigit N a0_ σ = some (r, u)) : zMi l yX12_isDigit cX12_isDigit 1 (some .boolean) (0) D cy shR ad ts lnR [.int a0_] σ r u := by
  refine zM_of (by decide) (Nat.le_of_ble_eq_true rfl) (fun p e s m args below meth c ls ha X J hl => ?_)
  have hx := X.1
  have hb := X.2.1
  have hl : lv_has ls 1 [(0, .int a0_)] := hl
  generalize s.heap = H at J ⊢
  generalize ([] : List Loc) = locs at J ⊢
  show W p l e (zRm (0)) s m args below meth c H locs 0 0 (zQi D cy shR ad ts lnR below args s (r, u)) (F0 m 0 ls [])
  unfold fX12_isDigit at hf
  refine lv_iload_n hx hb dX12_isDigit_0 rfl (lv_at hl 0 rfl) ?_
  refine lv_bipush (v := (48 : Int32)) hx hb dX12_isDigit_1 (by decide) ?_
  refine lv_icmp_lt hx hb dX12_isDigit_3 rfl (fun h => ?_) (fun h => ?_)
  · have hf := itp h hf
    refine lv_iconst (v := (0 : Int32)) hx hb dX12_isDigit_16 (by decide) ?_
    exact zr_zretc X J (by decide) hf dX12_isDigit_17
  · have hf := itn h hf
    refine lv_iload_n hx hb dX12_isDigit_6 rfl (lv_at hl 0 rfl) ?_
    refine lv_bipush (v := (57 : Int32)) hx hb dX12_isDigit_7 (by decide) ?_
    refine lv_icmp_gt hx hb dX12_isDigit_9 rfl (fun h => ?_) (fun h => ?_)
    · have hf := itp h hf
      refine lv_iconst (v := (0 : Int32)) hx hb dX12_isDigit_16 (by decide) ?_
      exact zr_zretc X J (by decide) hf dX12_isDigit_17
    · have hf := itn h hf
      refine lv_iconst (v := (1 : Int32)) hx hb dX12_isDigit_12 (by decide) ?_
      refine lv_goto hx hb dX12_isDigit_13 rfl ?_
      exact zr_zretc X J (by decide) hf dX12_isDigit_17
set_option maxHeartbeats 4000000 in
theorem tX12_see {a1_ : Int32}  {σ u : zSt} {r : Int32} (hf : fX12_see N a1_ σ = some (r, u)) : zMi l yX12_see cX12_see 2 (some .int) (0) D cy shR ad ts lnR [.ref (ad 0), .int a1_] σ r u := by
  refine zM_of (by decide) (Nat.le_of_ble_eq_true rfl) (fun p e s m args below meth c ls ha X J hl => ?_)
  have hx := X.1
  have hb := X.2.1
  have hl : lv_has ls 2 [(0, .ref (ad 0)), (1, .int a1_)] := hl
  generalize s.heap = H at J ⊢
  generalize ([] : List Loc) = locs at J ⊢
  show W p l e (zRm (0)) s m args below meth c H locs 0 0 (zQi D cy shR ad ts lnR below args s (r, u)) (F0 m 0 ls [])
  unfold fX12_see at hf
  refine lv_iload_n hx hb dX12_see_0 rfl (lv_at hl 1 rfl) ?_
  refine lv_aload_n hx hb dX12_see_1 rfl (lv_at hl 0 rfl) ?_
  refine gf_X12_193 X J dX12_see_2 ?_
  refine lv_icmp_ge hx hb dX12_see_5 rfl (fun h => ?_) (fun h => ?_)
  · have hf := itp h hf
    refine lv_iconst (v := (-1 : Int32)) hx hb dX12_see_17 (by decide) ?_
    exact zr_iret X J hf dX12_see_18
  · have hf := itn h hf
    refine lv_aload_n hx hb dX12_see_8 rfl (lv_at hl 0 rfl) ?_
    refine gf_X12_25 X J dX12_see_9 ?_
    refine lv_iload_n hx hb dX12_see_12 rfl (lv_at hl 1 rfl) ?_
    obtain ⟨hin, hf⟩ := itx hf
    refine al_X12_X12f15 X J hin dX12_see_13 ?_
    refine lv_goto hx hb dX12_see_14 rfl ?_
    exact zr_iret X J hf dX12_see_18
set_option maxHeartbeats 4000000 in
theorem bX12_name_162 {o : Unit × zSt} (X : zX p s m args meth c D cy shR ad ts cX12_name 2 none RX12) {k125 : Int32 → zSt → Option (Unit × zSt)} (hk125 : ∀ (x1_ : Int32) (σ : zSt) (H : Heap) (locs : List Loc) (ls : Array Slot), zJ D cy shR ad lnR s σ H locs → lv_has ls 2 [(0, .ref (ad 0)), (1, .int x1_)] → k125 x1_ σ = some o → W p l e (zRm (1)) s m args below meth c H locs 0 0 (zQv D cy shR ad ts lnR below args s o) (F0 m 125 ls [])) {x1_ : Int32}  {σ : zSt} {H : Heap} {locs : List Loc} {ls : Array Slot} (J : zJ D cy shR ad lnR s σ H locs) (hl : lv_has ls 2 [(0, .ref (ad 0)), (1, .int x1_)]) (hf : fX12_name_b162 N k125 x1_ σ = some o) : W p l e (zRm (1)) s m args below meth c H locs 0 0 (zQv D cy shR ad ts lnR below args s o) (F0 m 162 ls []) := by
  have hx := X.1
  have hb := X.2.1
  unfold fX12_name_b162 at hf
  obtain ⟨x6, eq⟩ : ∃ z, z = x1_ + (1 : Int32) := ⟨_, rfl⟩
  have hf := bnd_eq eq hf
  refine lv_iinc hx hb dX12_name_162 hl (k := 1) rfl (v := x6) (by rw [eq]; rfl) (by decide) rfl (fun ls hl => ?_)
  clear eq
  have hl : lv_has ls 2 [(1, .int x6), (0, .ref (ad 0))] := hl
  refine lv_goto hx hb dX12_name_165 rfl ?_
  exact hk125 _ _ _ _ _ J (lv_sub hl [1, 0] rfl) hf
set_option maxHeartbeats 4000000 in
theorem bX12_name_125 {o : Unit × zSt} (X : zX p s m args meth c D cy shR ad ts cX12_name 2 none RX12)  : ∀ (n : Nat) (x1_ : Int32) (σ : zSt) (H : Heap) (locs : List Loc) (ls : Array Slot), zJ D cy shR ad lnR s σ H locs → lv_has ls 2 [(0, .ref (ad 0)), (1, .int x1_)] → fX12_name_b125 N  n x1_ σ = some o → W p l e (zRm (1)) s m args below meth c H locs 0 0 (zQv D cy shR ad ts lnR below args s o) (F0 m 125 ls []) := by
  have hx := X.1
  have hb := X.2.1
  intro n
  induction n with
  | zero =>
    intro x1_ σ H locs ls J hl hf
    rw [fX12_name_b125] at hf
    cases hf
  | succ n ih =>
    intro x1_ σ H locs ls J hl hf
    rw [fX12_name_b125] at hf
    refine lv_iload_n hx hb dX12_name_125 rfl (lv_at hl 1 rfl) ?_
    refine lv_bipush (v := (7 : Int32)) hx hb dX12_name_126 (by decide) ?_
    refine lv_icmp_ge hx hb dX12_name_128 rfl (fun h => ?_) (fun h => ?_)
    · have hf := itp h hf
      exact zr_vret X J hf dX12_name_168
    · have hf := itn h hf
      refine lv_aload_n hx hb dX12_name_131 rfl (lv_at hl 0 rfl) ?_
      refine gf_X12_206 X J dX12_name_132 ?_
      refine lv_iconst (v := (1 : Int32)) hx hb dX12_name_135 (by decide) ?_
      refine lv_icmp_ne hx hb dX12_name_136 rfl (fun h => ?_) (fun h => ?_)
      · have hf := itn h hf
        exact zr_vret X J hf dX12_name_168
      · have hf := itp h hf
        refine lv_iload_n hx hb dX12_name_139 rfl (lv_at hl 1 rfl) ?_
        obtain ⟨r4, σ5, hc, hf⟩ := obd_some hf
        refine zr_callSl (As := [.int x1_]) (rest := []) X J yy_X12_wordOf mw_methodLink_TinyCModel_225_TinyCModel_wordOf_IJ (d := 0) (zR_ok (by omega) (by decide)) hl.1 rfl (Nat.le_of_ble_eq_true rfl) (tX12_wordOf  hc) dX12_name_140 (fun H locs J => ?_)
        refine lv_aload_n hx hb dX12_name_143 rfl (lv_at hl 0 rfl) ?_
        refine gf_X12_202 X J dX12_name_144 ?_
        refine W.lcmp hx hb dX12_name_147 ?_
        refine lv_if_ne hx hb dX12_name_148 rfl (fun h => ?_) (fun h => ?_)
        · have hf := itn h hf
          exact bX12_name_162 X ih  J (lv_sub hl [0, 1] rfl) hf
        · have hf := itp h hf
          refine lv_aload_n hx hb dX12_name_151 rfl (lv_at hl 0 rfl) ?_
          refine lv_iconst (v := (3 : Int32)) hx hb dX12_name_152 (by decide) ?_
          refine pf_X12_206 X J dX12_name_153 (fun σ7 H locs eq J => ?_)
          have hf := bnd_eq eq hf
          clear eq
          refine lv_aload_n hx hb dX12_name_156 rfl (lv_at hl 0 rfl) ?_
          refine lv_iload_n hx hb dX12_name_157 rfl (lv_at hl 1 rfl) ?_
          refine lv_i2l hx hb dX12_name_158 rfl ?_
          refine pf_X12_202 X J dX12_name_159 (fun σ8 H locs eq J => ?_)
          have hf := bnd_eq eq hf
          clear eq
          exact bX12_name_162 X ih  J (lv_sub hl [0, 1] rfl) hf
set_option maxHeartbeats 4000000 in
theorem bX12_name_123 {o : Unit × zSt} (X : zX p s m args meth c D cy shR ad ts cX12_name 2 none RX12)    {σ : zSt} {H : Heap} {locs : List Loc} {ls : Array Slot} (J : zJ D cy shR ad lnR s σ H locs) (hl : lv_has ls 2 [(0, .ref (ad 0))]) (hf : fX12_name_b123 N   σ = some o) : W p l e (zRm (1)) s m args below meth c H locs 0 0 (zQv D cy shR ad ts lnR below args s o) (F0 m 123 ls []) := by
  have hx := X.1
  have hb := X.2.1
  unfold fX12_name_b123 at hf
  refine lv_iconst (v := (0 : Int32)) hx hb dX12_name_123 (by decide) ?_
  refine lv_topi (fun x3 eq => ?_)
  have hf := bnd_eq eq hf
  clear eq
  refine lv_istore_n hx hb dX12_name_124 rfl hl (by decide) rfl (fun ls hl => ?_)
  have hl : lv_has ls 2 [(1, .int x3), (0, .ref (ad 0))] := hl
  exact bX12_name_125 X  N _ _ _ _ _ J (lv_sub hl [1, 0] rfl) hf
set_option maxHeartbeats 4000000 in
theorem bX12_name_82 {o : Unit × zSt} (X : zX p s m args meth c D cy shR ad ts cX12_name 2 none RX12)  : ∀ (n : Nat) (x1_ : Int32) (σ : zSt) (H : Heap) (locs : List Loc) (ls : Array Slot), zJ D cy shR ad lnR s σ H locs → lv_has ls 2 [(0, .ref (ad 0)), (1, .int x1_)] → fX12_name_b82 N  n x1_ σ = some o → W p l e (zRm (1)) s m args below meth c H locs 0 0 (zQv D cy shR ad ts lnR below args s o) (F0 m 82 ls []) := by
  have hx := X.1
  have hb := X.2.1
  intro n
  induction n with
  | zero =>
    intro x1_ σ H locs ls J hl hf
    rw [fX12_name_b82] at hf
    cases hf
  | succ n ih =>
    intro x1_ σ H locs ls J hl hf
    rw [fX12_name_b82] at hf
    refine lv_iload_n hx hb dX12_name_82 rfl (lv_at hl 1 rfl) ?_
    refine lv_aload_n hx hb dX12_name_83 rfl (lv_at hl 0 rfl) ?_
    refine gf_X12_196 X J dX12_name_84 ?_
    refine lv_icmp_ge hx hb dX12_name_87 rfl (fun h => ?_) (fun h => ?_)
    · have hf := itp h hf
      exact bX12_name_123 X   J (lv_sub hl [0] rfl) hf
    · have hf := itn h hf
      refine lv_aload_n hx hb dX12_name_90 rfl (lv_at hl 0 rfl) ?_
      refine gf_X12_206 X J dX12_name_91 ?_
      refine lv_iconst (v := (1 : Int32)) hx hb dX12_name_94 (by decide) ?_
      refine lv_icmp_ne hx hb dX12_name_95 rfl (fun h => ?_) (fun h => ?_)
      · have hf := itn h hf
        exact bX12_name_123 X   J (lv_sub hl [0] rfl) hf
      · have hf := itp h hf
        refine lv_aload_n hx hb dX12_name_98 rfl (lv_at hl 0 rfl) ?_
        refine lv_aload_n hx hb dX12_name_99 rfl (lv_at hl 0 rfl) ?_
        refine gf_X12_202 X J dX12_name_100 ?_
        refine lv_bipush (v := (8 : Int32)) hx hb dX12_name_103 (by decide) ?_
        refine lv_lshl hx hb dX12_name_105 rfl ?_
        refine lv_aload_n hx hb dX12_name_106 rfl (lv_at hl 0 rfl) ?_
        refine gf_X12_25 X J dX12_name_107 ?_
        refine lv_iload_n hx hb dX12_name_110 rfl (lv_at hl 1 rfl) ?_
        obtain ⟨hin, hf⟩ := itx hf
        refine al_X12_X12f15 X J hin dX12_name_111 ?_
        refine lv_i2l hx hb dX12_name_112 rfl ?_
        refine lv_lor hx hb dX12_name_113 ?_
        refine pf_X12_202 X J dX12_name_114 (fun σ9 H locs eq J => ?_)
        have hf := bnd_eq eq hf
        clear eq
        obtain ⟨x10, eq⟩ : ∃ z, z = x1_ + (1 : Int32) := ⟨_, rfl⟩
        have hf := bnd_eq eq hf
        refine lv_iinc hx hb dX12_name_117 hl (k := 1) rfl (v := x10) (by rw [eq]; rfl) (by decide) rfl (fun ls hl => ?_)
        clear eq
        have hl : lv_has ls 2 [(1, .int x10), (0, .ref (ad 0))] := hl
        refine lv_goto hx hb dX12_name_120 rfl ?_
        exact ih _ _ _ _ _ J (lv_sub hl [1, 0] rfl) hf
set_option maxHeartbeats 4000000 in
theorem bX12_name_74 {o : Unit × zSt} (X : zX p s m args meth c D cy shR ad ts cX12_name 2 none RX12)  {s0_ : Int32}  {σ : zSt} {H : Heap} {locs : List Loc} {ls : Array Slot} (J : zJ D cy shR ad lnR s σ H locs) (hl : lv_has ls 2 [(0, .ref (ad 0))]) (hf : fX12_name_b74 N  s0_ σ = some o) : W p l e (zRm (1)) s m args below meth c H locs 0 0 (zQv D cy shR ad ts lnR below args s o) (F0 m 74 ls [.int s0_, .ref (ad 0)]) := by
  have hx := X.1
  have hb := X.2.1
  unfold fX12_name_b74 at hf
  refine pf_X12_206 X J dX12_name_74 (fun σ1 H locs eq J => ?_)
  have hf := bnd_eq eq hf
  clear eq
  refine lv_aload_n hx hb dX12_name_77 rfl (lv_at hl 0 rfl) ?_
  refine gf_X12_199 X J dX12_name_78 ?_
  refine lv_topi (fun x2 eq => ?_)
  have hf := bnd_eq eq hf
  clear eq
  refine lv_istore_n hx hb dX12_name_81 rfl hl (by decide) rfl (fun ls hl => ?_)
  have hl : lv_has ls 2 [(1, .int x2), (0, .ref (ad 0))] := hl
  exact bX12_name_82 X  N _ _ _ _ _ J (lv_sub hl [1, 0] rfl) hf
set_option maxHeartbeats 4000000 in
theorem bX12_name_54 {o : Unit × zSt} (X : zX p s m args meth c D cy shR ad ts cX12_name 2 none RX12)    {σ : zSt} {H : Heap} {locs : List Loc} {ls : Array Slot} (J : zJ D cy shR ad lnR s σ H locs) (hl : lv_has ls 2 [(0, .ref (ad 0))]) (hf : fX12_name_b54 N   σ = some o) : W p l e (zRm (1)) s m args below meth c H locs 0 0 (zQv D cy shR ad ts lnR below args s o) (F0 m 54 ls []) := by
  have hx := X.1
  have hb := X.2.1
  unfold fX12_name_b54 at hf
  refine lv_aload_n hx hb dX12_name_54 rfl (lv_at hl 0 rfl) ?_
  refine lv_aload_n hx hb dX12_name_55 rfl (lv_at hl 0 rfl) ?_
  refine gf_X12_196 X J dX12_name_56 ?_
  refine lv_aload_n hx hb dX12_name_59 rfl (lv_at hl 0 rfl) ?_
  refine gf_X12_199 X J dX12_name_60 ?_
  refine lv_isub hx hb dX12_name_63 ?_
  refine lv_bipush (v := (8 : Int32)) hx hb dX12_name_64 (by decide) ?_
  refine lv_icmp_gt hx hb dX12_name_66 rfl (fun h => ?_) (fun h => ?_)
  · have hf := itp h hf
    refine lv_iconst (v := (5 : Int32)) hx hb dX12_name_73 (by decide) ?_
    exact bX12_name_74 X   J (lv_sub hl [0] rfl) hf
  · have hf := itn h hf
    refine lv_iconst (v := (1 : Int32)) hx hb dX12_name_69 (by decide) ?_
    refine lv_goto hx hb dX12_name_70 rfl ?_
    exact bX12_name_74 X   J (lv_sub hl [0] rfl) hf
set_option maxHeartbeats 4000000 in
theorem bX12_name_41 {o : Unit × zSt} (X : zX p s m args meth c D cy shR ad ts cX12_name 2 none RX12) {k0 : zSt → Option (Unit × zSt)} (hk0 : ∀  (σ : zSt) (H : Heap) (locs : List Loc) (ls : Array Slot), zJ D cy shR ad lnR s σ H locs → lv_has ls 2 [(0, .ref (ad 0))] → k0  σ = some o → W p l e (zRm (1)) s m args below meth c H locs 0 0 (zQv D cy shR ad ts lnR below args s o) (F0 m 0 ls []))   {σ : zSt} {H : Heap} {locs : List Loc} {ls : Array Slot} (J : zJ D cy shR ad lnR s σ H locs) (hl : lv_has ls 2 [(0, .ref (ad 0))]) (hf : fX12_name_b41 N k0  σ = some o) : W p l e (zRm (1)) s m args below meth c H locs 0 0 (zQv D cy shR ad ts lnR below args s o) (F0 m 41 ls []) := by
  have hx := X.1
  have hb := X.2.1
  unfold fX12_name_b41 at hf
  refine lv_aload_n hx hb dX12_name_41 rfl (lv_at hl 0 rfl) ?_
  refine lv_dup hx hb dX12_name_42 rfl ?_
  refine gf_X12_196 X J dX12_name_43 ?_
  refine lv_iconst (v := (1 : Int32)) hx hb dX12_name_46 (by decide) ?_
  refine lv_iadd hx hb dX12_name_47 ?_
  refine pf_X12_196 X J dX12_name_48 (fun σ13 H locs eq J => ?_)
  have hf := bnd_eq eq hf
  clear eq
  refine lv_goto hx hb dX12_name_51 rfl ?_
  exact hk0 _ _ _ _ J (lv_sub hl [0] rfl) hf
set_option maxHeartbeats 4000000 in
theorem bX12_name_0 {o : Unit × zSt} (X : zX p s m args meth c D cy shR ad ts cX12_name 2 none RX12)  : ∀ (n : Nat)  (σ : zSt) (H : Heap) (locs : List Loc) (ls : Array Slot), zJ D cy shR ad lnR s σ H locs → lv_has ls 2 [(0, .ref (ad 0))] → fX12_name_b0 N  n  σ = some o → W p l e (zRm (1)) s m args below meth c H locs 0 0 (zQv D cy shR ad ts lnR below args s o) (F0 m 0 ls []) := by
  have hx := X.1
  have hb := X.2.1
  intro n
  induction n with
  | zero =>
    intro  σ H locs ls J hl hf
    rw [fX12_name_b0] at hf
    cases hf
  | succ n ih =>
    intro  σ H locs ls J hl hf
    rw [fX12_name_b0] at hf
    refine lv_aload_n hx hb dX12_name_0 rfl (lv_at hl 0 rfl) ?_
    refine gf_X12_196 X J dX12_name_1 ?_
    refine lv_aload_n hx hb dX12_name_4 rfl (lv_at hl 0 rfl) ?_
    refine gf_X12_193 X J dX12_name_5 ?_
    refine lv_icmp_ge hx hb dX12_name_8 rfl (fun h => ?_) (fun h => ?_)
    · have hf := itp h hf
      exact bX12_name_54 X   J (lv_sub hl [0] rfl) hf
    · have hf := itn h hf
      refine lv_aload_n hx hb dX12_name_11 rfl (lv_at hl 0 rfl) ?_
      refine gf_X12_25 X J dX12_name_12 ?_
      refine lv_aload_n hx hb dX12_name_15 rfl (lv_at hl 0 rfl) ?_
      refine gf_X12_196 X J dX12_name_16 ?_
      obtain ⟨hin, hf⟩ := itx hf
      refine al_X12_X12f15 X J hin dX12_name_19 ?_
      obtain ⟨r11, σ12, hc, hf⟩ := obd_some hf
      refine zr_callSi (As := [.int (zA σ 6 (zI σ 0 17).toNatClampNeg)]) (rest := []) X J yy_X12_isLetter mw_methodLink_TinyCModel_209_TinyCModel_isLetter_IZ (d := 0) (zR_ok (by omega) (by decide)) hl.1 rfl (Nat.le_of_ble_eq_true rfl) (tX12_isLetter  hc) dX12_name_20 (fun H locs J => ?_)
      refine lv_if_ne hx hb dX12_name_23 rfl (fun h => ?_) (fun h => ?_)
      · have hf := itn h hf
        exact bX12_name_41 X ih  J (lv_sub hl [0] rfl) hf
      · have hf := itp h hf
        refine lv_aload_n hx hb dX12_name_26 rfl (lv_at hl 0 rfl) ?_
        refine gf_X12_25 X J dX12_name_27 ?_
        refine lv_aload_n hx hb dX12_name_30 rfl (lv_at hl 0 rfl) ?_
        refine gf_X12_196 X J dX12_name_31 ?_
        obtain ⟨hin, hf⟩ := itx hf
        refine al_X12_X12f15 X J hin dX12_name_34 ?_
        obtain ⟨r14, σ15, hc, hf⟩ := obd_some hf
        refine zr_callSi (As := [.int (zA σ12 6 (zI σ12 0 17).toNatClampNeg)]) (rest := []) X J yy_X12_isDigit mw_methodLink_TinyCModel_216_TinyCModel_isDigit_IZ (d := 0) (zR_ok (by omega) (by decide)) hl.1 rfl (Nat.le_of_ble_eq_true rfl) (tX12_isDigit  hc) dX12_name_35 (fun H locs J => ?_)
        refine lv_if_eq hx hb dX12_name_38 rfl (fun h => ?_) (fun h => ?_)
        · have hf := itp h hf
          exact bX12_name_54 X   J (lv_sub hl [0] rfl) hf
        · have hf := itn h hf
          exact bX12_name_41 X ih  J (lv_sub hl [0] rfl) hf
set_option maxHeartbeats 4000000 in
theorem tX12_name   {σ u : zSt} {r : Unit} (hf : fX12_name N  σ = some (r, u)) : zMv l yX12_name cX12_name 2 none (1) D cy shR ad ts lnR [.ref (ad 0)] σ u := by
  refine zM_of (by decide) (Nat.le_of_ble_eq_true rfl) (fun p e s m args below meth c ls ha X J hl => ?_)
  have hx := X.1
  have hb := X.2.1
  have hl : lv_has ls 2 [(0, .ref (ad 0))] := hl
  generalize s.heap = H at J ⊢
  generalize ([] : List Loc) = locs at J ⊢
  show W p l e (zRm (1)) s m args below meth c H locs 0 0 (zQv D cy shR ad ts lnR below args s (r, u)) (F0 m 0 ls [])
  unfold fX12_name at hf
  exact bX12_name_0 X  N _ _ _ _ J (lv_sub hl [0] rfl) hf
set_option maxHeartbeats 4000000 in
theorem bX12_number_67 {o : Unit × zSt} (X : zX p s m args meth c D cy shR ad ts cX12_number 2 none RX12)  : ∀ (n : Nat) (x1_ : Int32) (σ : zSt) (H : Heap) (locs : List Loc) (ls : Array Slot), zJ D cy shR ad lnR s σ H locs → lv_has ls 2 [(0, .ref (ad 0)), (1, .int x1_)] → fX12_number_b67 N  n x1_ σ = some o → W p l e (zRm (1)) s m args below meth c H locs 0 0 (zQv D cy shR ad ts lnR below args s o) (F0 m 67 ls []) := by
  have hx := X.1
  have hb := X.2.1
  intro n
  induction n with
  | zero =>
    intro x1_ σ H locs ls J hl hf
    rw [fX12_number_b67] at hf
    cases hf
  | succ n ih =>
    intro x1_ σ H locs ls J hl hf
    rw [fX12_number_b67] at hf
    refine lv_iload_n hx hb dX12_number_67 rfl (lv_at hl 1 rfl) ?_
    refine lv_aload_n hx hb dX12_number_68 rfl (lv_at hl 0 rfl) ?_
    refine gf_X12_196 X J dX12_number_69 ?_
    refine lv_icmp_ge hx hb dX12_number_72 rfl (fun h => ?_) (fun h => ?_)
    · have hf := itp h hf
      exact zr_vret X J hf dX12_number_113
    · have hf := itn h hf
      refine lv_aload_n hx hb dX12_number_75 rfl (lv_at hl 0 rfl) ?_
      refine gf_X12_206 X J dX12_number_76 ?_
      refine lv_iconst (v := (2 : Int32)) hx hb dX12_number_79 (by decide) ?_
      refine lv_icmp_ne hx hb dX12_number_80 rfl (fun h => ?_) (fun h => ?_)
      · have hf := itn h hf
        exact zr_vret X J hf dX12_number_113
      · have hf := itp h hf
        refine lv_aload_n hx hb dX12_number_83 rfl (lv_at hl 0 rfl) ?_
        refine lv_ldc2 (v := (10 : Int64)) hx hb X.2.2.2.1 (X.2.2.2.2.1 _ mw_constantLong_TinyCModel_229) dX12_number_84 ?_
        refine lv_aload_n hx hb dX12_number_87 rfl (lv_at hl 0 rfl) ?_
        refine gf_X12_202 X J dX12_number_88 ?_
        refine lv_lmul hx hb dX12_number_91 ?_
        refine lv_aload_n hx hb dX12_number_92 rfl (lv_at hl 0 rfl) ?_
        refine gf_X12_25 X J dX12_number_93 ?_
        refine lv_iload_n hx hb dX12_number_96 rfl (lv_at hl 1 rfl) ?_
        obtain ⟨hin, hf⟩ := itx hf
        refine al_X12_X12f15 X J hin dX12_number_97 ?_
        refine lv_i2l hx hb dX12_number_98 rfl ?_
        refine lv_ladd hx hb dX12_number_99 ?_
        refine lv_ldc2 (v := (48 : Int64)) hx hb X.2.2.2.1 (X.2.2.2.2.1 _ mw_constantLong_TinyCModel_231) dX12_number_100 ?_
        refine lv_lsub hx hb dX12_number_103 ?_
        refine pf_X12_202 X J dX12_number_104 (fun σ3 H locs eq J => ?_)
        have hf := bnd_eq eq hf
        clear eq
        obtain ⟨x4, eq⟩ : ∃ z, z = x1_ + (1 : Int32) := ⟨_, rfl⟩
        have hf := bnd_eq eq hf
        refine lv_iinc hx hb dX12_number_107 hl (k := 1) rfl (v := x4) (by rw [eq]; rfl) (by decide) rfl (fun ls hl => ?_)
        clear eq
        have hl : lv_has ls 2 [(1, .int x4), (0, .ref (ad 0))] := hl
        refine lv_goto hx hb dX12_number_110 rfl ?_
        exact ih _ _ _ _ _ J (lv_sub hl [1, 0] rfl) hf
set_option maxHeartbeats 4000000 in
theorem bX12_number_59 {o : Unit × zSt} (X : zX p s m args meth c D cy shR ad ts cX12_number 2 none RX12)  {s0_ : Int32}  {σ : zSt} {H : Heap} {locs : List Loc} {ls : Array Slot} (J : zJ D cy shR ad lnR s σ H locs) (hl : lv_has ls 2 [(0, .ref (ad 0))]) (hf : fX12_number_b59 N  s0_ σ = some o) : W p l e (zRm (1)) s m args below meth c H locs 0 0 (zQv D cy shR ad ts lnR below args s o) (F0 m 59 ls [.int s0_, .ref (ad 0)]) := by
  have hx := X.1
  have hb := X.2.1
  unfold fX12_number_b59 at hf
  refine pf_X12_206 X J dX12_number_59 (fun σ1 H locs eq J => ?_)
  have hf := bnd_eq eq hf
  clear eq
  refine lv_aload_n hx hb dX12_number_62 rfl (lv_at hl 0 rfl) ?_
  refine gf_X12_199 X J dX12_number_63 ?_
  refine lv_topi (fun x2 eq => ?_)
  have hf := bnd_eq eq hf
  clear eq
  refine lv_istore_n hx hb dX12_number_66 rfl hl (by decide) rfl (fun ls hl => ?_)
  have hl : lv_has ls 2 [(1, .int x2), (0, .ref (ad 0))] := hl
  exact bX12_number_67 X  N _ _ _ _ _ J (lv_sub hl [1, 0] rfl) hf
set_option maxHeartbeats 4000000 in
theorem bX12_number_39 {o : Unit × zSt} (X : zX p s m args meth c D cy shR ad ts cX12_number 2 none RX12)    {σ : zSt} {H : Heap} {locs : List Loc} {ls : Array Slot} (J : zJ D cy shR ad lnR s σ H locs) (hl : lv_has ls 2 [(0, .ref (ad 0))]) (hf : fX12_number_b39 N   σ = some o) : W p l e (zRm (1)) s m args below meth c H locs 0 0 (zQv D cy shR ad ts lnR below args s o) (F0 m 39 ls []) := by
  have hx := X.1
  have hb := X.2.1
  unfold fX12_number_b39 at hf
  refine lv_aload_n hx hb dX12_number_39 rfl (lv_at hl 0 rfl) ?_
  refine lv_aload_n hx hb dX12_number_40 rfl (lv_at hl 0 rfl) ?_
  refine gf_X12_196 X J dX12_number_41 ?_
  refine lv_aload_n hx hb dX12_number_44 rfl (lv_at hl 0 rfl) ?_
  refine gf_X12_199 X J dX12_number_45 ?_
  refine lv_isub hx hb dX12_number_48 ?_
  refine lv_bipush (v := (10 : Int32)) hx hb dX12_number_49 (by decide) ?_
  refine lv_icmp_gt hx hb dX12_number_51 rfl (fun h => ?_) (fun h => ?_)
  · have hf := itp h hf
    refine lv_iconst (v := (5 : Int32)) hx hb dX12_number_58 (by decide) ?_
    exact bX12_number_59 X   J (lv_sub hl [0] rfl) hf
  · have hf := itn h hf
    refine lv_iconst (v := (2 : Int32)) hx hb dX12_number_54 (by decide) ?_
    refine lv_goto hx hb dX12_number_55 rfl ?_
    exact bX12_number_59 X   J (lv_sub hl [0] rfl) hf
set_option maxHeartbeats 4000000 in
theorem bX12_number_0 {o : Unit × zSt} (X : zX p s m args meth c D cy shR ad ts cX12_number 2 none RX12)  : ∀ (n : Nat)  (σ : zSt) (H : Heap) (locs : List Loc) (ls : Array Slot), zJ D cy shR ad lnR s σ H locs → lv_has ls 2 [(0, .ref (ad 0))] → fX12_number_b0 N  n  σ = some o → W p l e (zRm (1)) s m args below meth c H locs 0 0 (zQv D cy shR ad ts lnR below args s o) (F0 m 0 ls []) := by
  have hx := X.1
  have hb := X.2.1
  intro n
  induction n with
  | zero =>
    intro  σ H locs ls J hl hf
    rw [fX12_number_b0] at hf
    cases hf
  | succ n ih =>
    intro  σ H locs ls J hl hf
    rw [fX12_number_b0] at hf
    refine lv_aload_n hx hb dX12_number_0 rfl (lv_at hl 0 rfl) ?_
    refine gf_X12_196 X J dX12_number_1 ?_
    refine lv_aload_n hx hb dX12_number_4 rfl (lv_at hl 0 rfl) ?_
    refine gf_X12_193 X J dX12_number_5 ?_
    refine lv_icmp_ge hx hb dX12_number_8 rfl (fun h => ?_) (fun h => ?_)
    · have hf := itp h hf
      exact bX12_number_39 X   J (lv_sub hl [0] rfl) hf
    · have hf := itn h hf
      refine lv_aload_n hx hb dX12_number_11 rfl (lv_at hl 0 rfl) ?_
      refine gf_X12_25 X J dX12_number_12 ?_
      refine lv_aload_n hx hb dX12_number_15 rfl (lv_at hl 0 rfl) ?_
      refine gf_X12_196 X J dX12_number_16 ?_
      obtain ⟨hin, hf⟩ := itx hf
      refine al_X12_X12f15 X J hin dX12_number_19 ?_
      obtain ⟨r5, σ6, hc, hf⟩ := obd_some hf
      refine zr_callSi (As := [.int (zA σ 6 (zI σ 0 17).toNatClampNeg)]) (rest := []) X J yy_X12_isDigit mw_methodLink_TinyCModel_216_TinyCModel_isDigit_IZ (d := 0) (zR_ok (by omega) (by decide)) hl.1 rfl (Nat.le_of_ble_eq_true rfl) (tX12_isDigit  hc) dX12_number_20 (fun H locs J => ?_)
      refine lv_if_eq hx hb dX12_number_23 rfl (fun h => ?_) (fun h => ?_)
      · have hf := itp h hf
        exact bX12_number_39 X   J (lv_sub hl [0] rfl) hf
      · have hf := itn h hf
        refine lv_aload_n hx hb dX12_number_26 rfl (lv_at hl 0 rfl) ?_
        refine lv_dup hx hb dX12_number_27 rfl ?_
        refine gf_X12_196 X J dX12_number_28 ?_
        refine lv_iconst (v := (1 : Int32)) hx hb dX12_number_31 (by decide) ?_
        refine lv_iadd hx hb dX12_number_32 ?_
        refine pf_X12_196 X J dX12_number_33 (fun σ7 H locs eq J => ?_)
        have hf := bnd_eq eq hf
        clear eq
        refine lv_goto hx hb dX12_number_36 rfl ?_
        exact ih _ _ _ _ J (lv_sub hl [0] rfl) hf
set_option maxHeartbeats 4000000 in
theorem tX12_number   {σ u : zSt} {r : Unit} (hf : fX12_number N  σ = some (r, u)) : zMv l yX12_number cX12_number 2 none (1) D cy shR ad ts lnR [.ref (ad 0)] σ u := by
  refine zM_of (by decide) (Nat.le_of_ble_eq_true rfl) (fun p e s m args below meth c ls ha X J hl => ?_)
  have hx := X.1
  have hb := X.2.1
  have hl : lv_has ls 2 [(0, .ref (ad 0))] := hl
  generalize s.heap = H at J ⊢
  generalize ([] : List Loc) = locs at J ⊢
  show W p l e (zRm (1)) s m args below meth c H locs 0 0 (zQv D cy shR ad ts lnR below args s (r, u)) (F0 m 0 ls [])
  unfold fX12_number at hf
  exact bX12_number_0 X  N _ _ _ _ J (lv_sub hl [0] rfl) hf
set_option maxHeartbeats 4000000 in
theorem bX12_sign_243 {o : Unit × zSt} (X : zX p s m args meth c D cy shR ad ts cX12_sign 6 none RX12)  {x1_ : Int32} {x2_ : Int32} {x3_ : Int32} {x4_ : Int32} {s0_ : Int32}  {σ : zSt} {H : Heap} {locs : List Loc} {ls : Array Slot} (J : zJ D cy shR ad lnR s σ H locs) (hl : lv_has ls 6 [(0, .ref (ad 0)), (1, .int x1_), (2, .int x2_), (3, .int x3_), (4, .int x4_)]) (hf : fX12_sign_b243 N  x1_ x2_ x3_ x4_ s0_ σ = some o) : W p l e (zRm (1)) s m args below meth c H locs 0 0 (zQv D cy shR ad ts lnR below args s o) (F0 m 243 ls [.int s0_]) := by
  have hx := X.1
  have hb := X.2.1
  unfold fX12_sign_b243 at hf
  refine lv_istore hx hb dX12_sign_243 hl (by decide) rfl (fun ls hl => ?_)
  have hl : lv_has ls 6 [(5, .int s0_), (0, .ref (ad 0)), (1, .int x1_), (2, .int x2_), (3, .int x3_), (4, .int x4_)] := hl
  refine lv_iload hx hb dX12_sign_245 (lv_at hl 5 rfl) ?_
  refine lv_if_eq hx hb dX12_sign_247 rfl (fun h => ?_) (fun h => ?_)
  · have hf := itp h hf
    refine lv_iload_n hx hb dX12_sign_274 rfl (lv_at hl 4 rfl) ?_
    refine lv_if_ne hx hb dX12_sign_275 rfl (fun h => ?_) (fun h => ?_)
    · have hf := itn h hf
      exact zr_vret X J hf dX12_sign_288
    · have hf := itp h hf
      refine lv_iload hx hb dX12_sign_278 (lv_at hl 0 rfl) ?_
      refine lv_if_ne hx hb dX12_sign_280 rfl (fun h => ?_) (fun h => ?_)
      · have hf := itn h hf
        exact zr_vret X J hf dX12_sign_288
      · have hf := itp h hf
        refine lv_aload_n hx hb dX12_sign_283 rfl (lv_at hl 1 rfl) ?_
        refine lv_iconst (v := (5 : Int32)) hx hb dX12_sign_284 (by decide) ?_
        refine pf_X12_206 X J dX12_sign_285 (fun σ7 H locs eq J => ?_)
        have hf := bnd_eq eq hf
        clear eq
        exact zr_vret X J hf dX12_sign_288
  · have hf := itn h hf
    refine lv_aload_n hx hb dX12_sign_250 rfl (lv_at hl 1 rfl) ?_
    refine lv_iload_n hx hb dX12_sign_251 rfl (lv_at hl 2 rfl) ?_
    refine lv_bipush (v := (8 : Int32)) hx hb dX12_sign_252 (by decide) ?_
    refine lv_ishl hx hb dX12_sign_254 ?_
    refine lv_iload_n hx hb dX12_sign_255 rfl (lv_at hl 3 rfl) ?_
    refine lv_ior hx hb dX12_sign_256 ?_
    refine lv_i2l hx hb dX12_sign_257 rfl ?_
    refine pf_X12_202 X J dX12_sign_258 (fun σ8 H locs eq J => ?_)
    have hf := bnd_eq eq hf
    clear eq
    refine lv_aload_n hx hb dX12_sign_261 rfl (lv_at hl 1 rfl) ?_
    refine lv_dup hx hb dX12_sign_262 rfl ?_
    refine gf_X12_196 X J dX12_sign_263 ?_
    refine lv_iconst (v := (1 : Int32)) hx hb dX12_sign_266 (by decide) ?_
    refine lv_iadd hx hb dX12_sign_267 ?_
    refine pf_X12_196 X J dX12_sign_268 (fun σ9 H locs eq J => ?_)
    have hf := bnd_eq eq hf
    clear eq
    refine lv_goto hx hb dX12_sign_271 rfl ?_
    exact zr_vret X J hf dX12_sign_288
set_option maxHeartbeats 4000000 in
theorem bX12_sign_238 {o : Unit × zSt} (X : zX p s m args meth c D cy shR ad ts cX12_sign 6 none RX12)  {x1_ : Int32} {x2_ : Int32} {x3_ : Int32} {x4_ : Int32}  {σ : zSt} {H : Heap} {locs : List Loc} {ls : Array Slot} (J : zJ D cy shR ad lnR s σ H locs) (hl : lv_has ls 6 [(0, .ref (ad 0)), (1, .int x1_), (2, .int x2_), (3, .int x3_), (4, .int x4_)]) (hf : fX12_sign_b238 N  x1_ x2_ x3_ x4_ σ = some o) : W p l e (zRm (1)) s m args below meth c H locs 0 0 (zQv D cy shR ad ts lnR below args s o) (F0 m 238 ls []) := by
  have hx := X.1
  have hb := X.2.1
  unfold fX12_sign_b238 at hf
  refine lv_iconst (v := (1 : Int32)) hx hb dX12_sign_238 (by decide) ?_
  refine lv_goto hx hb dX12_sign_239 rfl ?_
  exact bX12_sign_243 X   J (lv_sub hl [0, 1, 2, 3, 4] rfl) hf
set_option maxHeartbeats 4000000 in
theorem bX12_sign_200 {o : Unit × zSt} (X : zX p s m args meth c D cy shR ad ts cX12_sign 6 none RX12)  {x1_ : Int32} {x2_ : Int32} {x3_ : Int32} {s0_ : Int32}  {σ : zSt} {H : Heap} {locs : List Loc} {ls : Array Slot} (J : zJ D cy shR ad lnR s σ H locs) (hl : lv_has ls 6 [(0, .ref (ad 0)), (1, .int x1_), (2, .int x2_), (3, .int x3_)]) (hf : fX12_sign_b200 N  x1_ x2_ x3_ s0_ σ = some o) : W p l e (zRm (1)) s m args below meth c H locs 0 0 (zQv D cy shR ad ts lnR below args s o) (F0 m 200 ls [.int s0_]) := by
  have hx := X.1
  have hb := X.2.1
  unfold fX12_sign_b200 at hf
  refine lv_istore hx hb dX12_sign_200 hl (by decide) rfl (fun ls hl => ?_)
  have hl : lv_has ls 6 [(4, .int s0_), (0, .ref (ad 0)), (1, .int x1_), (2, .int x2_), (3, .int x3_)] := hl
  refine lv_iload_n hx hb dX12_sign_202 rfl (lv_at hl 2 rfl) ?_
  refine lv_bipush (v := (61 : Int32)) hx hb dX12_sign_203 (by decide) ?_
  refine lv_icmp_eq hx hb dX12_sign_205 rfl (fun h => ?_) (fun h => ?_)
  · have hf := itp h hf
    exact bX12_sign_238 X   J (lv_sub hl [1, 2, 3, 4, 0] rfl) hf
  · have hf := itn h hf
    refine lv_iload_n hx hb dX12_sign_208 rfl (lv_at hl 2 rfl) ?_
    refine lv_bipush (v := (33 : Int32)) hx hb dX12_sign_209 (by decide) ?_
    refine lv_icmp_eq hx hb dX12_sign_211 rfl (fun h => ?_) (fun h => ?_)
    · have hf := itp h hf
      exact bX12_sign_238 X   J (lv_sub hl [1, 2, 3, 4, 0] rfl) hf
    · have hf := itn h hf
      refine lv_iload_n hx hb dX12_sign_214 rfl (lv_at hl 2 rfl) ?_
      refine lv_bipush (v := (60 : Int32)) hx hb dX12_sign_215 (by decide) ?_
      refine lv_icmp_eq hx hb dX12_sign_217 rfl (fun h => ?_) (fun h => ?_)
      · have hf := itp h hf
        exact bX12_sign_238 X   J (lv_sub hl [1, 2, 3, 4, 0] rfl) hf
      · have hf := itn h hf
        refine lv_iload_n hx hb dX12_sign_220 rfl (lv_at hl 2 rfl) ?_
        refine lv_bipush (v := (62 : Int32)) hx hb dX12_sign_221 (by decide) ?_
        refine lv_icmp_eq hx hb dX12_sign_223 rfl (fun h => ?_) (fun h => ?_)
        · have hf := itp h hf
          exact bX12_sign_238 X   J (lv_sub hl [1, 2, 3, 4, 0] rfl) hf
        · have hf := itn h hf
          refine lv_iload_n hx hb dX12_sign_226 rfl (lv_at hl 2 rfl) ?_
          refine lv_bipush (v := (124 : Int32)) hx hb dX12_sign_227 (by decide) ?_
          refine lv_icmp_eq hx hb dX12_sign_229 rfl (fun h => ?_) (fun h => ?_)
          · have hf := itp h hf
            exact bX12_sign_238 X   J (lv_sub hl [1, 2, 3, 4, 0] rfl) hf
          · have hf := itn h hf
            refine lv_iload_n hx hb dX12_sign_232 rfl (lv_at hl 2 rfl) ?_
            refine lv_bipush (v := (38 : Int32)) hx hb dX12_sign_233 (by decide) ?_
            refine lv_icmp_ne hx hb dX12_sign_235 rfl (fun h => ?_) (fun h => ?_)
            · have hf := itn h hf
              refine lv_iconst (v := (0 : Int32)) hx hb dX12_sign_242 (by decide) ?_
              exact bX12_sign_243 X   J (lv_sub hl [1, 2, 3, 4, 0] rfl) hf
            · have hf := itp h hf
              exact bX12_sign_238 X   J (lv_sub hl [1, 2, 3, 4, 0] rfl) hf
set_option maxHeartbeats 4000000 in
theorem bX12_sign_195 {o : Unit × zSt} (X : zX p s m args meth c D cy shR ad ts cX12_sign 6 none RX12)  {x1_ : Int32} {x2_ : Int32} {x3_ : Int32}  {σ : zSt} {H : Heap} {locs : List Loc} {ls : Array Slot} (J : zJ D cy shR ad lnR s σ H locs) (hl : lv_has ls 6 [(0, .ref (ad 0)), (1, .int x1_), (2, .int x2_), (3, .int x3_)]) (hf : fX12_sign_b195 N  x1_ x2_ x3_ σ = some o) : W p l e (zRm (1)) s m args below meth c H locs 0 0 (zQv D cy shR ad ts lnR below args s o) (F0 m 195 ls []) := by
  have hx := X.1
  have hb := X.2.1
  unfold fX12_sign_b195 at hf
  refine lv_iconst (v := (1 : Int32)) hx hb dX12_sign_195 (by decide) ?_
  refine lv_goto hx hb dX12_sign_196 rfl ?_
  exact bX12_sign_200 X   J (lv_sub hl [0, 1, 2, 3] rfl) hf
set_option maxHeartbeats 4000000 in
theorem bX12_sign_199 {o : Unit × zSt} (X : zX p s m args meth c D cy shR ad ts cX12_sign 6 none RX12)  {x1_ : Int32} {x2_ : Int32} {x3_ : Int32}  {σ : zSt} {H : Heap} {locs : List Loc} {ls : Array Slot} (J : zJ D cy shR ad lnR s σ H locs) (hl : lv_has ls 6 [(0, .ref (ad 0)), (1, .int x1_), (2, .int x2_), (3, .int x3_)]) (hf : fX12_sign_b199 N  x1_ x2_ x3_ σ = some o) : W p l e (zRm (1)) s m args below meth c H locs 0 0 (zQv D cy shR ad ts lnR below args s o) (F0 m 199 ls []) := by
  have hx := X.1
  have hb := X.2.1
  unfold fX12_sign_b199 at hf
  refine lv_iconst (v := (0 : Int32)) hx hb dX12_sign_199 (by decide) ?_
  exact bX12_sign_200 X   J (lv_sub hl [0, 1, 2, 3] rfl) hf
set_option maxHeartbeats 4000000 in
theorem bX12_sign_190 {o : Unit × zSt} (X : zX p s m args meth c D cy shR ad ts cX12_sign 6 none RX12)  {x1_ : Int32} {x2_ : Int32} {x3_ : Int32}  {σ : zSt} {H : Heap} {locs : List Loc} {ls : Array Slot} (J : zJ D cy shR ad lnR s σ H locs) (hl : lv_has ls 6 [(0, .ref (ad 0)), (1, .int x1_), (2, .int x2_), (3, .int x3_)]) (hf : fX12_sign_b190 N  x1_ x2_ x3_ σ = some o) : W p l e (zRm (1)) s m args below meth c H locs 0 0 (zQv D cy shR ad ts lnR below args s o) (F0 m 190 ls []) := by
  have hx := X.1
  have hb := X.2.1
  unfold fX12_sign_b190 at hf
  refine lv_iload_n hx hb dX12_sign_190 rfl (lv_at hl 2 rfl) ?_
  refine lv_iload_n hx hb dX12_sign_191 rfl (lv_at hl 1 rfl) ?_
  refine lv_icmp_ne hx hb dX12_sign_192 rfl (fun h => ?_) (fun h => ?_)
  · have hf := itn h hf
    exact bX12_sign_199 X   J (lv_sub hl [0, 1, 2, 3] rfl) hf
  · have hf := itp h hf
    exact bX12_sign_195 X   J (lv_sub hl [0, 1, 2, 3] rfl) hf
set_option maxHeartbeats 4000000 in
theorem bX12_sign_166 {o : Unit × zSt} (X : zX p s m args meth c D cy shR ad ts cX12_sign 6 none RX12)  {x1_ : Int32} {x2_ : Int32} {x3_ : Int32}  {σ : zSt} {H : Heap} {locs : List Loc} {ls : Array Slot} (J : zJ D cy shR ad lnR s σ H locs) (hl : lv_has ls 6 [(0, .ref (ad 0)), (1, .int x1_), (2, .int x2_), (3, .int x3_)]) (hf : fX12_sign_b166 N  x1_ x2_ x3_ σ = some o) : W p l e (zRm (1)) s m args below meth c H locs 0 0 (zQv D cy shR ad ts lnR below args s o) (F0 m 166 ls []) := by
  have hx := X.1
  have hb := X.2.1
  unfold fX12_sign_b166 at hf
  refine lv_iload_n hx hb dX12_sign_166 rfl (lv_at hl 1 rfl) ?_
  refine lv_bipush (v := (124 : Int32)) hx hb dX12_sign_167 (by decide) ?_
  refine lv_icmp_eq hx hb dX12_sign_169 rfl (fun h => ?_) (fun h => ?_)
  · have hf := itp h hf
    exact bX12_sign_190 X   J (lv_sub hl [0, 1, 2, 3] rfl) hf
  · have hf := itn h hf
    refine lv_iload_n hx hb dX12_sign_172 rfl (lv_at hl 1 rfl) ?_
    refine lv_bipush (v := (38 : Int32)) hx hb dX12_sign_173 (by decide) ?_
    refine lv_icmp_eq hx hb dX12_sign_175 rfl (fun h => ?_) (fun h => ?_)
    · have hf := itp h hf
      exact bX12_sign_190 X   J (lv_sub hl [0, 1, 2, 3] rfl) hf
    · have hf := itn h hf
      refine lv_iload_n hx hb dX12_sign_178 rfl (lv_at hl 1 rfl) ?_
      refine lv_bipush (v := (60 : Int32)) hx hb dX12_sign_179 (by decide) ?_
      refine lv_icmp_eq hx hb dX12_sign_181 rfl (fun h => ?_) (fun h => ?_)
      · have hf := itp h hf
        exact bX12_sign_190 X   J (lv_sub hl [0, 1, 2, 3] rfl) hf
      · have hf := itn h hf
        refine lv_iload_n hx hb dX12_sign_184 rfl (lv_at hl 1 rfl) ?_
        refine lv_bipush (v := (62 : Int32)) hx hb dX12_sign_185 (by decide) ?_
        refine lv_icmp_ne hx hb dX12_sign_187 rfl (fun h => ?_) (fun h => ?_)
        · have hf := itn h hf
          exact bX12_sign_199 X   J (lv_sub hl [0, 1, 2, 3] rfl) hf
        · have hf := itp h hf
          exact bX12_sign_190 X   J (lv_sub hl [0, 1, 2, 3] rfl) hf
set_option maxHeartbeats 4000000 in
theorem bX12_sign_160 {o : Unit × zSt} (X : zX p s m args meth c D cy shR ad ts cX12_sign 6 none RX12)  {x1_ : Int32} {x2_ : Int32} {x3_ : Int32}  {σ : zSt} {H : Heap} {locs : List Loc} {ls : Array Slot} (J : zJ D cy shR ad lnR s σ H locs) (hl : lv_has ls 6 [(0, .ref (ad 0)), (1, .int x1_), (2, .int x2_), (3, .int x3_)]) (hf : fX12_sign_b160 N  x1_ x2_ x3_ σ = some o) : W p l e (zRm (1)) s m args below meth c H locs 0 0 (zQv D cy shR ad ts lnR below args s o) (F0 m 160 ls []) := by
  have hx := X.1
  have hb := X.2.1
  unfold fX12_sign_b160 at hf
  refine lv_iload_n hx hb dX12_sign_160 rfl (lv_at hl 2 rfl) ?_
  refine lv_bipush (v := (61 : Int32)) hx hb dX12_sign_161 (by decide) ?_
  refine lv_icmp_eq hx hb dX12_sign_163 rfl (fun h => ?_) (fun h => ?_)
  · have hf := itp h hf
    exact bX12_sign_195 X   J (lv_sub hl [0, 1, 2, 3] rfl) hf
  · have hf := itn h hf
    exact bX12_sign_166 X   J (lv_sub hl [0, 1, 2, 3] rfl) hf
set_option maxHeartbeats 4000000 in
theorem bX12_sign_135 {o : Unit × zSt} (X : zX p s m args meth c D cy shR ad ts cX12_sign 6 none RX12)  {x1_ : Int32} {x2_ : Int32} {s0_ : Int32}  {σ : zSt} {H : Heap} {locs : List Loc} {ls : Array Slot} (J : zJ D cy shR ad lnR s σ H locs) (hl : lv_has ls 6 [(0, .ref (ad 0)), (1, .int x1_), (2, .int x2_)]) (hf : fX12_sign_b135 N  x1_ x2_ s0_ σ = some o) : W p l e (zRm (1)) s m args below meth c H locs 0 0 (zQv D cy shR ad ts lnR below args s o) (F0 m 135 ls [.int s0_]) := by
  have hx := X.1
  have hb := X.2.1
  unfold fX12_sign_b135 at hf
  refine lv_istore_n hx hb dX12_sign_135 rfl hl (by decide) rfl (fun ls hl => ?_)
  have hl : lv_has ls 6 [(3, .int s0_), (0, .ref (ad 0)), (1, .int x1_), (2, .int x2_)] := hl
  refine lv_iload_n hx hb dX12_sign_136 rfl (lv_at hl 2 rfl) ?_
  refine lv_bipush (v := (61 : Int32)) hx hb dX12_sign_137 (by decide) ?_
  refine lv_icmp_eq hx hb dX12_sign_139 rfl (fun h => ?_) (fun h => ?_)
  · have hf := itp h hf
    exact bX12_sign_160 X   J (lv_sub hl [1, 2, 3, 0] rfl) hf
  · have hf := itn h hf
    refine lv_iload_n hx hb dX12_sign_142 rfl (lv_at hl 2 rfl) ?_
    refine lv_bipush (v := (33 : Int32)) hx hb dX12_sign_143 (by decide) ?_
    refine lv_icmp_eq hx hb dX12_sign_145 rfl (fun h => ?_) (fun h => ?_)
    · have hf := itp h hf
      exact bX12_sign_160 X   J (lv_sub hl [1, 2, 3, 0] rfl) hf
    · have hf := itn h hf
      refine lv_iload_n hx hb dX12_sign_148 rfl (lv_at hl 2 rfl) ?_
      refine lv_bipush (v := (60 : Int32)) hx hb dX12_sign_149 (by decide) ?_
      refine lv_icmp_eq hx hb dX12_sign_151 rfl (fun h => ?_) (fun h => ?_)
      · have hf := itp h hf
        exact bX12_sign_160 X   J (lv_sub hl [1, 2, 3, 0] rfl) hf
      · have hf := itn h hf
        refine lv_iload_n hx hb dX12_sign_154 rfl (lv_at hl 2 rfl) ?_
        refine lv_bipush (v := (62 : Int32)) hx hb dX12_sign_155 (by decide) ?_
        refine lv_icmp_ne hx hb dX12_sign_157 rfl (fun h => ?_) (fun h => ?_)
        · have hf := itn h hf
          exact bX12_sign_166 X   J (lv_sub hl [1, 2, 3, 0] rfl) hf
        · have hf := itp h hf
          exact bX12_sign_160 X   J (lv_sub hl [1, 2, 3, 0] rfl) hf
set_option maxHeartbeats 4000000 in
theorem bX12_sign_130 {o : Unit × zSt} (X : zX p s m args meth c D cy shR ad ts cX12_sign 6 none RX12)  {x1_ : Int32} {x2_ : Int32}  {σ : zSt} {H : Heap} {locs : List Loc} {ls : Array Slot} (J : zJ D cy shR ad lnR s σ H locs) (hl : lv_has ls 6 [(0, .ref (ad 0)), (1, .int x1_), (2, .int x2_)]) (hf : fX12_sign_b130 N  x1_ x2_ σ = some o) : W p l e (zRm (1)) s m args below meth c H locs 0 0 (zQv D cy shR ad ts lnR below args s o) (F0 m 130 ls []) := by
  have hx := X.1
  have hb := X.2.1
  unfold fX12_sign_b130 at hf
  refine lv_iconst (v := (1 : Int32)) hx hb dX12_sign_130 (by decide) ?_
  refine lv_goto hx hb dX12_sign_131 rfl ?_
  exact bX12_sign_135 X   J (lv_sub hl [0, 1, 2] rfl) hf
set_option maxHeartbeats 4000000 in
theorem tX12_sign   {σ u : zSt} {r : Unit} (hf : fX12_sign N  σ = some (r, u)) : zMv l yX12_sign cX12_sign 6 none (1) D cy shR ad ts lnR [.ref (ad 0)] σ u := by
  refine zM_of (by decide) (Nat.le_of_ble_eq_true rfl) (fun p e s m args below meth c ls ha X J hl => ?_)
  have hx := X.1
  have hb := X.2.1
  have hl : lv_has ls 6 [(0, .ref (ad 0))] := hl
  generalize s.heap = H at J ⊢
  generalize ([] : List Loc) = locs at J ⊢
  show W p l e (zRm (1)) s m args below meth c H locs 0 0 (zQv D cy shR ad ts lnR below args s (r, u)) (F0 m 0 ls [])
  unfold fX12_sign at hf
  refine lv_aload_n hx hb dX12_sign_0 rfl (lv_at hl 0 rfl) ?_
  refine gf_X12_25 X J dX12_sign_1 ?_
  refine lv_aload_n hx hb dX12_sign_4 rfl (lv_at hl 0 rfl) ?_
  refine gf_X12_196 X J dX12_sign_5 ?_
  obtain ⟨hin, hf⟩ := itx hf
  refine al_X12_X12f15 X J hin dX12_sign_8 ?_
  refine lv_topi (fun x1 eq => ?_)
  have hf := bnd_eq eq hf
  clear eq
  refine lv_istore_n hx hb dX12_sign_9 rfl hl (by decide) rfl (fun ls hl => ?_)
  have hl : lv_has ls 6 [(1, .int x1), (0, .ref (ad 0))] := hl
  refine lv_aload_n hx hb dX12_sign_10 rfl (lv_at hl 1 rfl) ?_
  refine lv_dup hx hb dX12_sign_11 rfl ?_
  refine gf_X12_196 X J dX12_sign_12 ?_
  refine lv_iconst (v := (1 : Int32)) hx hb dX12_sign_15 (by decide) ?_
  refine lv_iadd hx hb dX12_sign_16 ?_
  refine pf_X12_196 X J dX12_sign_17 (fun σ2 H locs eq J => ?_)
  have hf := bnd_eq eq hf
  clear eq
  refine lv_aload_n hx hb dX12_sign_20 rfl (lv_at hl 1 rfl) ?_
  refine lv_aload_n hx hb dX12_sign_21 rfl (lv_at hl 1 rfl) ?_
  refine gf_X12_196 X J dX12_sign_22 ?_
  obtain ⟨r3, σ4, hc, hf⟩ := obd_some hf
  refine zr_calli (As := [.int (zI σ2 0 17)]) (rest := []) X J 0 ho_R_X12.1 ho_R_X12.2.1 ho_R_X12.2.2 yy_X12_see mw_methodLink_TinyCModel_233_TinyCModel_see_II (d := 0) (zR_ok (by omega) (by decide)) hl.1 rfl (Nat.le_of_ble_eq_true rfl) (tX12_see  hc) dX12_sign_25 (fun H locs J => ?_)
  refine lv_istore_n hx hb dX12_sign_28 rfl hl (by decide) rfl (fun ls hl => ?_)
  have hl : lv_has ls 6 [(2, .int r3), (1, .int x1), (0, .ref (ad 0))] := hl
  refine lv_aload_n hx hb dX12_sign_29 rfl (lv_at hl 2 rfl) ?_
  refine lv_iconst (v := (4 : Int32)) hx hb dX12_sign_30 (by decide) ?_
  refine pf_X12_206 X J dX12_sign_31 (fun σ5 H locs eq J => ?_)
  have hf := bnd_eq eq hf
  clear eq
  refine lv_aload_n hx hb dX12_sign_34 rfl (lv_at hl 2 rfl) ?_
  refine lv_iload_n hx hb dX12_sign_35 rfl (lv_at hl 1 rfl) ?_
  refine lv_i2l hx hb dX12_sign_36 rfl ?_
  refine pf_X12_202 X J dX12_sign_37 (fun σ6 H locs eq J => ?_)
  have hf := bnd_eq eq hf
  clear eq
  refine lv_iload_n hx hb dX12_sign_40 rfl (lv_at hl 1 rfl) ?_
  refine lv_bipush (v := (40 : Int32)) hx hb dX12_sign_41 (by decide) ?_
  refine lv_icmp_eq hx hb dX12_sign_43 rfl (fun h => ?_) (fun h => ?_)
  · have hf := itp h hf
    exact bX12_sign_130 X   J (lv_sub hl [2, 1, 0] rfl) hf
  · have hf := itn h hf
    refine lv_iload_n hx hb dX12_sign_46 rfl (lv_at hl 1 rfl) ?_
    refine lv_bipush (v := (41 : Int32)) hx hb dX12_sign_47 (by decide) ?_
    refine lv_icmp_eq hx hb dX12_sign_49 rfl (fun h => ?_) (fun h => ?_)
    · have hf := itp h hf
      exact bX12_sign_130 X   J (lv_sub hl [2, 1, 0] rfl) hf
    · have hf := itn h hf
      refine lv_iload_n hx hb dX12_sign_52 rfl (lv_at hl 1 rfl) ?_
      refine lv_bipush (v := (123 : Int32)) hx hb dX12_sign_53 (by decide) ?_
      refine lv_icmp_eq hx hb dX12_sign_55 rfl (fun h => ?_) (fun h => ?_)
      · have hf := itp h hf
        exact bX12_sign_130 X   J (lv_sub hl [2, 1, 0] rfl) hf
      · have hf := itn h hf
        refine lv_iload_n hx hb dX12_sign_58 rfl (lv_at hl 1 rfl) ?_
        refine lv_bipush (v := (125 : Int32)) hx hb dX12_sign_59 (by decide) ?_
        refine lv_icmp_eq hx hb dX12_sign_61 rfl (fun h => ?_) (fun h => ?_)
        · have hf := itp h hf
          exact bX12_sign_130 X   J (lv_sub hl [2, 1, 0] rfl) hf
        · have hf := itn h hf
          refine lv_iload_n hx hb dX12_sign_64 rfl (lv_at hl 1 rfl) ?_
          refine lv_bipush (v := (91 : Int32)) hx hb dX12_sign_65 (by decide) ?_
          refine lv_icmp_eq hx hb dX12_sign_67 rfl (fun h => ?_) (fun h => ?_)
          · have hf := itp h hf
            exact bX12_sign_130 X   J (lv_sub hl [2, 1, 0] rfl) hf
          · have hf := itn h hf
            refine lv_iload_n hx hb dX12_sign_70 rfl (lv_at hl 1 rfl) ?_
            refine lv_bipush (v := (93 : Int32)) hx hb dX12_sign_71 (by decide) ?_
            refine lv_icmp_eq hx hb dX12_sign_73 rfl (fun h => ?_) (fun h => ?_)
            · have hf := itp h hf
              exact bX12_sign_130 X   J (lv_sub hl [2, 1, 0] rfl) hf
            · have hf := itn h hf
              refine lv_iload_n hx hb dX12_sign_76 rfl (lv_at hl 1 rfl) ?_
              refine lv_bipush (v := (44 : Int32)) hx hb dX12_sign_77 (by decide) ?_
              refine lv_icmp_eq hx hb dX12_sign_79 rfl (fun h => ?_) (fun h => ?_)
              · have hf := itp h hf
                exact bX12_sign_130 X   J (lv_sub hl [2, 1, 0] rfl) hf
              · have hf := itn h hf
                refine lv_iload_n hx hb dX12_sign_82 rfl (lv_at hl 1 rfl) ?_
                refine lv_bipush (v := (59 : Int32)) hx hb dX12_sign_83 (by decide) ?_
                refine lv_icmp_eq hx hb dX12_sign_85 rfl (fun h => ?_) (fun h => ?_)
                · have hf := itp h hf
                  exact bX12_sign_130 X   J (lv_sub hl [2, 1, 0] rfl) hf
                · have hf := itn h hf
                  refine lv_iload_n hx hb dX12_sign_88 rfl (lv_at hl 1 rfl) ?_
                  refine lv_bipush (v := (94 : Int32)) hx hb dX12_sign_89 (by decide) ?_
                  refine lv_icmp_eq hx hb dX12_sign_91 rfl (fun h => ?_) (fun h => ?_)
                  · have hf := itp h hf
                    exact bX12_sign_130 X   J (lv_sub hl [2, 1, 0] rfl) hf
                  · have hf := itn h hf
                    refine lv_iload_n hx hb dX12_sign_94 rfl (lv_at hl 1 rfl) ?_
                    refine lv_bipush (v := (43 : Int32)) hx hb dX12_sign_95 (by decide) ?_
                    refine lv_icmp_eq hx hb dX12_sign_97 rfl (fun h => ?_) (fun h => ?_)
                    · have hf := itp h hf
                      exact bX12_sign_130 X   J (lv_sub hl [2, 1, 0] rfl) hf
                    · have hf := itn h hf
                      refine lv_iload_n hx hb dX12_sign_100 rfl (lv_at hl 1 rfl) ?_
                      refine lv_bipush (v := (45 : Int32)) hx hb dX12_sign_101 (by decide) ?_
                      refine lv_icmp_eq hx hb dX12_sign_103 rfl (fun h => ?_) (fun h => ?_)
                      · have hf := itp h hf
                        exact bX12_sign_130 X   J (lv_sub hl [2, 1, 0] rfl) hf
                      · have hf := itn h hf
                        refine lv_iload_n hx hb dX12_sign_106 rfl (lv_at hl 1 rfl) ?_
                        refine lv_bipush (v := (42 : Int32)) hx hb dX12_sign_107 (by decide) ?_
                        refine lv_icmp_eq hx hb dX12_sign_109 rfl (fun h => ?_) (fun h => ?_)
                        · have hf := itp h hf
                          exact bX12_sign_130 X   J (lv_sub hl [2, 1, 0] rfl) hf
                        · have hf := itn h hf
                          refine lv_iload_n hx hb dX12_sign_112 rfl (lv_at hl 1 rfl) ?_
                          refine lv_bipush (v := (47 : Int32)) hx hb dX12_sign_113 (by decide) ?_
                          refine lv_icmp_eq hx hb dX12_sign_115 rfl (fun h => ?_) (fun h => ?_)
                          · have hf := itp h hf
                            exact bX12_sign_130 X   J (lv_sub hl [2, 1, 0] rfl) hf
                          · have hf := itn h hf
                            refine lv_iload_n hx hb dX12_sign_118 rfl (lv_at hl 1 rfl) ?_
                            refine lv_bipush (v := (37 : Int32)) hx hb dX12_sign_119 (by decide) ?_
                            refine lv_icmp_eq hx hb dX12_sign_121 rfl (fun h => ?_) (fun h => ?_)
                            · have hf := itp h hf
                              exact bX12_sign_130 X   J (lv_sub hl [2, 1, 0] rfl) hf
                            · have hf := itn h hf
                              refine lv_iload_n hx hb dX12_sign_124 rfl (lv_at hl 1 rfl) ?_
                              refine lv_bipush (v := (126 : Int32)) hx hb dX12_sign_125 (by decide) ?_
                              refine lv_icmp_ne hx hb dX12_sign_127 rfl (fun h => ?_) (fun h => ?_)
                              · have hf := itn h hf
                                refine lv_iconst (v := (0 : Int32)) hx hb dX12_sign_134 (by decide) ?_
                                exact bX12_sign_135 X   J (lv_sub hl [2, 1, 0] rfl) hf
                              · have hf := itp h hf
                                exact bX12_sign_130 X   J (lv_sub hl [2, 1, 0] rfl) hf
set_option maxHeartbeats 4000000 in
theorem bX12_next_52 {o : Unit × zSt} (X : zX p s m args meth c D cy shR ad ts cX12_next 1 none RX12)    {σ : zSt} {H : Heap} {locs : List Loc} {ls : Array Slot} (J : zJ D cy shR ad lnR s σ H locs) (hl : lv_has ls 1 [(0, .ref (ad 0))]) (hf : fX12_next_b52 N   σ = some o) : W p l e (zRm (2)) s m args below meth c H locs 0 0 (zQv D cy shR ad ts lnR below args s o) (F0 m 52 ls []) := by
  have hx := X.1
  have hb := X.2.1
  unfold fX12_next_b52 at hf
  refine lv_aload_n hx hb dX12_next_52 rfl (lv_at hl 0 rfl) ?_
  refine lv_aload_n hx hb dX12_next_53 rfl (lv_at hl 0 rfl) ?_
  refine gf_X12_196 X J dX12_next_54 ?_
  refine pf_X12_199 X J dX12_next_57 (fun σ1 H locs eq J => ?_)
  have hf := bnd_eq eq hf
  clear eq
  refine lv_aload_n hx hb dX12_next_60 rfl (lv_at hl 0 rfl) ?_
  refine lv_lconst (v := (0 : Int64)) hx hb dX12_next_61 (by decide) ?_
  refine pf_X12_202 X J dX12_next_62 (fun σ2 H locs eq J => ?_)
  have hf := bnd_eq eq hf
  clear eq
  refine lv_aload_n hx hb dX12_next_65 rfl (lv_at hl 0 rfl) ?_
  refine gf_X12_196 X J dX12_next_66 ?_
  refine lv_aload_n hx hb dX12_next_69 rfl (lv_at hl 0 rfl) ?_
  refine gf_X12_193 X J dX12_next_70 ?_
  refine lv_icmp_lt hx hb dX12_next_73 rfl (fun h => ?_) (fun h => ?_)
  · have hf := itp h hf
    refine lv_aload_n hx hb dX12_next_84 rfl (lv_at hl 0 rfl) ?_
    refine gf_X12_25 X J dX12_next_85 ?_
    refine lv_aload_n hx hb dX12_next_88 rfl (lv_at hl 0 rfl) ?_
    refine gf_X12_196 X J dX12_next_89 ?_
    obtain ⟨hin, hf⟩ := itx hf
    refine al_X12_X12f15 X J hin dX12_next_92 ?_
    obtain ⟨r3, σ4, hc, hf⟩ := obd_some hf
    refine zr_callSi (As := [.int (zA σ2 6 (zI σ2 0 17).toNatClampNeg)]) (rest := []) X J yy_X12_isLetter mw_methodLink_TinyCModel_209_TinyCModel_isLetter_IZ (d := 0) (zR_ok (by omega) (by decide)) hl.1 rfl (Nat.le_of_ble_eq_true rfl) (tX12_isLetter  hc) dX12_next_93 (fun H locs J => ?_)
    refine lv_if_eq hx hb dX12_next_96 rfl (fun h => ?_) (fun h => ?_)
    · have hf := itp h hf
      refine lv_aload_n hx hb dX12_next_106 rfl (lv_at hl 0 rfl) ?_
      refine gf_X12_25 X J dX12_next_107 ?_
      refine lv_aload_n hx hb dX12_next_110 rfl (lv_at hl 0 rfl) ?_
      refine gf_X12_196 X J dX12_next_111 ?_
      obtain ⟨hin, hf⟩ := itx hf
      refine al_X12_X12f15 X J hin dX12_next_114 ?_
      obtain ⟨r5, σ6, hc, hf⟩ := obd_some hf
      refine zr_callSi (As := [.int (zA σ4 6 (zI σ4 0 17).toNatClampNeg)]) (rest := []) X J yy_X12_isDigit mw_methodLink_TinyCModel_216_TinyCModel_isDigit_IZ (d := 0) (zR_ok (by omega) (by decide)) hl.1 rfl (Nat.le_of_ble_eq_true rfl) (tX12_isDigit  hc) dX12_next_115 (fun H locs J => ?_)
      refine lv_if_eq hx hb dX12_next_118 rfl (fun h => ?_) (fun h => ?_)
      · have hf := itp h hf
        refine lv_aload_n hx hb dX12_next_128 rfl (lv_at hl 0 rfl) ?_
        obtain ⟨r7, σ8, hc, hf⟩ := obd_some hf
        refine zr_callv (As := []) (rest := []) X J 0 ho_R_X12.1 ho_R_X12.2.1 ho_R_X12.2.2 yy_X12_sign mw_methodLink_TinyCModel_222_TinyCModel_sign_V (d := 1) (zR_ok (by omega) (by decide)) hl.1 rfl (Nat.le_of_ble_eq_true rfl) (tX12_sign  hc) dX12_next_129 (fun H locs J => ?_)
        exact zr_vret X J hf dX12_next_132
      · have hf := itn h hf
        refine lv_aload_n hx hb dX12_next_121 rfl (lv_at hl 0 rfl) ?_
        obtain ⟨r9, σ10, hc, hf⟩ := obd_some hf
        refine zr_callv (As := []) (rest := []) X J 0 ho_R_X12.1 ho_R_X12.2.1 ho_R_X12.2.2 yy_X12_number mw_methodLink_TinyCModel_219_TinyCModel_number_V (d := 1) (zR_ok (by omega) (by decide)) hl.1 rfl (Nat.le_of_ble_eq_true rfl) (tX12_number  hc) dX12_next_122 (fun H locs J => ?_)
        refine lv_goto hx hb dX12_next_125 rfl ?_
        exact zr_vret X J hf dX12_next_132
    · have hf := itn h hf
      refine lv_aload_n hx hb dX12_next_99 rfl (lv_at hl 0 rfl) ?_
      obtain ⟨r11, σ12, hc, hf⟩ := obd_some hf
      refine zr_callv (As := []) (rest := []) X J 0 ho_R_X12.1 ho_R_X12.2.1 ho_R_X12.2.2 yy_X12_name mw_methodLink_TinyCModel_213_TinyCModel_name_V (d := 1) (zR_ok (by omega) (by decide)) hl.1 rfl (Nat.le_of_ble_eq_true rfl) (tX12_name  hc) dX12_next_100 (fun H locs J => ?_)
      refine lv_goto hx hb dX12_next_103 rfl ?_
      exact zr_vret X J hf dX12_next_132
  · have hf := itn h hf
    refine lv_aload_n hx hb dX12_next_76 rfl (lv_at hl 0 rfl) ?_
    refine lv_iconst (v := (0 : Int32)) hx hb dX12_next_77 (by decide) ?_
    refine pf_X12_206 X J dX12_next_78 (fun σ13 H locs eq J => ?_)
    have hf := bnd_eq eq hf
    clear eq
    refine lv_goto hx hb dX12_next_81 rfl ?_
    exact zr_vret X J hf dX12_next_132
set_option maxHeartbeats 4000000 in
theorem bX12_next_39 {o : Unit × zSt} (X : zX p s m args meth c D cy shR ad ts cX12_next 1 none RX12) {k0 : zSt → Option (Unit × zSt)} (hk0 : ∀  (σ : zSt) (H : Heap) (locs : List Loc) (ls : Array Slot), zJ D cy shR ad lnR s σ H locs → lv_has ls 1 [(0, .ref (ad 0))] → k0  σ = some o → W p l e (zRm (2)) s m args below meth c H locs 0 0 (zQv D cy shR ad ts lnR below args s o) (F0 m 0 ls []))   {σ : zSt} {H : Heap} {locs : List Loc} {ls : Array Slot} (J : zJ D cy shR ad lnR s σ H locs) (hl : lv_has ls 1 [(0, .ref (ad 0))]) (hf : fX12_next_b39 N k0  σ = some o) : W p l e (zRm (2)) s m args below meth c H locs 0 0 (zQv D cy shR ad ts lnR below args s o) (F0 m 39 ls []) := by
  have hx := X.1
  have hb := X.2.1
  unfold fX12_next_b39 at hf
  refine lv_aload_n hx hb dX12_next_39 rfl (lv_at hl 0 rfl) ?_
  refine lv_dup hx hb dX12_next_40 rfl ?_
  refine gf_X12_196 X J dX12_next_41 ?_
  refine lv_iconst (v := (1 : Int32)) hx hb dX12_next_44 (by decide) ?_
  refine lv_iadd hx hb dX12_next_45 ?_
  refine pf_X12_196 X J dX12_next_46 (fun σ14 H locs eq J => ?_)
  have hf := bnd_eq eq hf
  clear eq
  refine lv_goto hx hb dX12_next_49 rfl ?_
  exact hk0 _ _ _ _ J (lv_sub hl [0] rfl) hf
set_option maxHeartbeats 4000000 in
theorem bX12_next_0 {o : Unit × zSt} (X : zX p s m args meth c D cy shR ad ts cX12_next 1 none RX12)  : ∀ (n : Nat)  (σ : zSt) (H : Heap) (locs : List Loc) (ls : Array Slot), zJ D cy shR ad lnR s σ H locs → lv_has ls 1 [(0, .ref (ad 0))] → fX12_next_b0 N  n  σ = some o → W p l e (zRm (2)) s m args below meth c H locs 0 0 (zQv D cy shR ad ts lnR below args s o) (F0 m 0 ls []) := by
  have hx := X.1
  have hb := X.2.1
  intro n
  induction n with
  | zero =>
    intro  σ H locs ls J hl hf
    rw [fX12_next_b0] at hf
    cases hf
  | succ n ih =>
    intro  σ H locs ls J hl hf
    rw [fX12_next_b0] at hf
    refine lv_aload_n hx hb dX12_next_0 rfl (lv_at hl 0 rfl) ?_
    refine gf_X12_196 X J dX12_next_1 ?_
    refine lv_aload_n hx hb dX12_next_4 rfl (lv_at hl 0 rfl) ?_
    refine gf_X12_193 X J dX12_next_5 ?_
    refine lv_icmp_ge hx hb dX12_next_8 rfl (fun h => ?_) (fun h => ?_)
    · have hf := itp h hf
      exact bX12_next_52 X   J (lv_sub hl [0] rfl) hf
    · have hf := itn h hf
      refine lv_aload_n hx hb dX12_next_11 rfl (lv_at hl 0 rfl) ?_
      refine gf_X12_25 X J dX12_next_12 ?_
      refine lv_aload_n hx hb dX12_next_15 rfl (lv_at hl 0 rfl) ?_
      refine gf_X12_196 X J dX12_next_16 ?_
      obtain ⟨hin, hf⟩ := itx hf
      refine al_X12_X12f15 X J hin dX12_next_19 ?_
      refine lv_bipush (v := (32 : Int32)) hx hb dX12_next_20 (by decide) ?_
      refine lv_icmp_eq hx hb dX12_next_22 rfl (fun h => ?_) (fun h => ?_)
      · have hf := itp h hf
        exact bX12_next_39 X ih  J (lv_sub hl [0] rfl) hf
      · have hf := itn h hf
        refine lv_aload_n hx hb dX12_next_25 rfl (lv_at hl 0 rfl) ?_
        refine gf_X12_25 X J dX12_next_26 ?_
        refine lv_aload_n hx hb dX12_next_29 rfl (lv_at hl 0 rfl) ?_
        refine gf_X12_196 X J dX12_next_30 ?_
        obtain ⟨hin, hf⟩ := itx hf
        refine al_X12_X12f15 X J hin dX12_next_33 ?_
        refine lv_bipush (v := (10 : Int32)) hx hb dX12_next_34 (by decide) ?_
        refine lv_icmp_ne hx hb dX12_next_36 rfl (fun h => ?_) (fun h => ?_)
        · have hf := itn h hf
          exact bX12_next_52 X   J (lv_sub hl [0] rfl) hf
        · have hf := itp h hf
          exact bX12_next_39 X ih  J (lv_sub hl [0] rfl) hf
set_option maxHeartbeats 4000000 in
theorem tX12_next   {σ u : zSt} {r : Unit} (hf : fX12_next N  σ = some (r, u)) : zMv l yX12_next cX12_next 1 none (2) D cy shR ad ts lnR [.ref (ad 0)] σ u := by
  refine zM_of (by decide) (Nat.le_of_ble_eq_true rfl) (fun p e s m args below meth c ls ha X J hl => ?_)
  have hx := X.1
  have hb := X.2.1
  have hl : lv_has ls 1 [(0, .ref (ad 0))] := hl
  generalize s.heap = H at J ⊢
  generalize ([] : List Loc) = locs at J ⊢
  show W p l e (zRm (2)) s m args below meth c H locs 0 0 (zQv D cy shR ad ts lnR below args s (r, u)) (F0 m 0 ls [])
  unfold fX12_next at hf
  exact bX12_next_0 X  N _ _ _ _ J (lv_sub hl [0] rfl) hf
set_option maxHeartbeats 4000000 in
theorem tX12_isWell   {σ u : zSt} {r : Int32} (hf : fX12_isWell N  σ = some (r, u)) : zMi l yX12_isWell cX12_isWell 1 (some .boolean) (0) D cy shR ad ts lnR [.ref (ad 0)] σ r u := by
  refine zM_of (by decide) (Nat.le_of_ble_eq_true rfl) (fun p e s m args below meth c ls ha X J hl => ?_)
  have hx := X.1
  have hb := X.2.1
  have hl : lv_has ls 1 [(0, .ref (ad 0))] := hl
  generalize s.heap = H at J ⊢
  generalize ([] : List Loc) = locs at J ⊢
  show W p l e (zRm (0)) s m args below meth c H locs 0 0 (zQi D cy shR ad ts lnR below args s (r, u)) (F0 m 0 ls [])
  unfold fX12_isWell at hf
  refine lv_aload_n hx hb dX12_isWell_0 rfl (lv_at hl 0 rfl) ?_
  refine gf_X12_236 X J dX12_isWell_1 ?_
  refine lv_if_ne hx hb dX12_isWell_4 rfl (fun h => ?_) (fun h => ?_)
  · have hf := itn h hf
    refine lv_iconst (v := (0 : Int32)) hx hb dX12_isWell_11 (by decide) ?_
    exact zr_zretc X J (by decide) hf dX12_isWell_12
  · have hf := itp h hf
    refine lv_iconst (v := (1 : Int32)) hx hb dX12_isWell_7 (by decide) ?_
    refine lv_goto hx hb dX12_isWell_8 rfl ?_
    exact zr_zretc X J (by decide) hf dX12_isWell_12
set_option maxHeartbeats 4000000 in
theorem tX12_fails {a1_ : Int32} {a2_ : Int32}  {σ u : zSt} {r : Unit} (hf : fX12_fails N a1_ a2_ σ = some (r, u)) : zMv l yX12_fails cX12_fails 3 none (0) D cy shR ad ts lnR [.ref (ad 0), .int a1_, .int a2_] σ u := by
  refine zM_of (by decide) (Nat.le_of_ble_eq_true rfl) (fun p e s m args below meth c ls ha X J hl => ?_)
  have hx := X.1
  have hb := X.2.1
  have hl : lv_has ls 3 [(0, .ref (ad 0)), (1, .int a1_), (2, .int a2_)] := hl
  generalize s.heap = H at J ⊢
  generalize ([] : List Loc) = locs at J ⊢
  show W p l e (zRm (0)) s m args below meth c H locs 0 0 (zQv D cy shR ad ts lnR below args s (r, u)) (F0 m 0 ls [])
  unfold fX12_fails at hf
  refine lv_aload_n hx hb dX12_fails_0 rfl (lv_at hl 0 rfl) ?_
  refine gf_X12_236 X J dX12_fails_1 ?_
  refine lv_if_ne hx hb dX12_fails_4 rfl (fun h => ?_) (fun h => ?_)
  · have hf := itn h hf
    exact zr_vret X J hf dX12_fails_17
  · have hf := itp h hf
    refine lv_aload_n hx hb dX12_fails_7 rfl (lv_at hl 0 rfl) ?_
    refine lv_iload_n hx hb dX12_fails_8 rfl (lv_at hl 1 rfl) ?_
    refine lv_bipush (v := (16 : Int32)) hx hb dX12_fails_9 (by decide) ?_
    refine lv_iload_n hx hb dX12_fails_11 rfl (lv_at hl 2 rfl) ?_
    refine lv_imul hx hb dX12_fails_12 ?_
    refine lv_iadd hx hb dX12_fails_13 ?_
    refine pf_X12_236 X J dX12_fails_14 (fun σ1 H locs eq J => ?_)
    have hf := bnd_eq eq hf
    clear eq
    exact zr_vret X J hf dX12_fails_17
set_option maxHeartbeats 4000000 in
theorem bX12_stray_14 {o : Unit × zSt} (X : zX p s m args meth c D cy shR ad ts cX12_stray 1 none RX12)  {s0_ : Int32}  {σ : zSt} {H : Heap} {locs : List Loc} {ls : Array Slot} (J : zJ D cy shR ad lnR s σ H locs) (hl : lv_has ls 1 [(0, .ref (ad 0))]) (hf : fX12_stray_b14 N  s0_ σ = some o) : W p l e (zRm (1)) s m args below meth c H locs 0 0 (zQv D cy shR ad ts lnR below args s o) (F0 m 14 ls [.int s0_, .ref (ad 0)]) := by
  have hx := X.1
  have hb := X.2.1
  unfold fX12_stray_b14 at hf
  refine lv_aload_n hx hb dX12_stray_14 rfl (lv_at hl 0 rfl) ?_
  refine gf_X12_199 X J dX12_stray_15 ?_
  obtain ⟨r1, σ2, hc, hf⟩ := obd_some hf
  refine zr_callv (As := [.int s0_, .int (zI σ 0 18)]) (rest := []) X J 0 ho_R_X12.1 ho_R_X12.2.1 ho_R_X12.2.2 yy_X12_fails mw_methodLink_TinyCModel_239_TinyCModel_fails_IIV (d := 0) (zR_ok (by omega) (by decide)) hl.1 rfl (Nat.le_of_ble_eq_true rfl) (tX12_fails  hc) dX12_stray_18 (fun H locs J => ?_)
  exact zr_vret X J hf dX12_stray_21
set_option maxHeartbeats 4000000 in
theorem tX12_stray   {σ u : zSt} {r : Unit} (hf : fX12_stray N  σ = some (r, u)) : zMv l yX12_stray cX12_stray 1 none (1) D cy shR ad ts lnR [.ref (ad 0)] σ u := by
  refine zM_of (by decide) (Nat.le_of_ble_eq_true rfl) (fun p e s m args below meth c ls ha X J hl => ?_)
  have hx := X.1
  have hb := X.2.1
  have hl : lv_has ls 1 [(0, .ref (ad 0))] := hl
  generalize s.heap = H at J ⊢
  generalize ([] : List Loc) = locs at J ⊢
  show W p l e (zRm (1)) s m args below meth c H locs 0 0 (zQv D cy shR ad ts lnR below args s (r, u)) (F0 m 0 ls [])
  unfold fX12_stray at hf
  refine lv_aload_n hx hb dX12_stray_0 rfl (lv_at hl 0 rfl) ?_
  refine lv_aload_n hx hb dX12_stray_1 rfl (lv_at hl 0 rfl) ?_
  refine gf_X12_206 X J dX12_stray_2 ?_
  refine lv_iconst (v := (5 : Int32)) hx hb dX12_stray_5 (by decide) ?_
  refine lv_icmp_ne hx hb dX12_stray_6 rfl (fun h => ?_) (fun h => ?_)
  · have hf := itn h hf
    refine lv_iconst (v := (2 : Int32)) hx hb dX12_stray_13 (by decide) ?_
    exact bX12_stray_14 X   J (lv_sub hl [0] rfl) hf
  · have hf := itp h hf
    refine lv_iconst (v := (1 : Int32)) hx hb dX12_stray_9 (by decide) ?_
    refine lv_goto hx hb dX12_stray_10 rfl ?_
    exact bX12_stray_14 X   J (lv_sub hl [0] rfl) hf
set_option maxHeartbeats 4000000 in
theorem tX12_isSign {a1_ : Int32}  {σ u : zSt} {r : Int32} (hf : fX12_isSign N a1_ σ = some (r, u)) : zMi l yX12_isSign cX12_isSign 2 (some .boolean) (1) D cy shR ad ts lnR [.ref (ad 0), .int a1_] σ r u := by
  refine zM_of (by decide) (Nat.le_of_ble_eq_true rfl) (fun p e s m args below meth c ls ha X J hl => ?_)
  have hx := X.1
  have hb := X.2.1
  have hl : lv_has ls 2 [(0, .ref (ad 0)), (1, .int a1_)] := hl
  generalize s.heap = H at J ⊢
  generalize ([] : List Loc) = locs at J ⊢
  show W p l e (zRm (1)) s m args below meth c H locs 0 0 (zQi D cy shR ad ts lnR below args s (r, u)) (F0 m 0 ls [])
  unfold fX12_isSign at hf
  refine lv_aload_n hx hb dX12_isSign_0 rfl (lv_at hl 0 rfl) ?_
  obtain ⟨r1, σ2, hc, hf⟩ := obd_some hf
  refine zr_calli (As := []) (rest := []) X J 0 ho_R_X12.1 ho_R_X12.2.1 ho_R_X12.2.2 yy_X12_isWell mw_methodLink_TinyCModel_243_TinyCModel_isWell_Z (d := 0) (zR_ok (by omega) (by decide)) hl.1 rfl (Nat.le_of_ble_eq_true rfl) (tX12_isWell  hc) dX12_isSign_1 (fun H locs J => ?_)
  refine lv_if_eq hx hb dX12_isSign_4 rfl (fun h => ?_) (fun h => ?_)
  · have hf := itp h hf
    refine lv_iconst (v := (0 : Int32)) hx hb dX12_isSign_29 (by decide) ?_
    exact zr_zretc X J (by decide) hf dX12_isSign_30
  · have hf := itn h hf
    refine lv_aload_n hx hb dX12_isSign_7 rfl (lv_at hl 0 rfl) ?_
    refine gf_X12_206 X J dX12_isSign_8 ?_
    refine lv_iconst (v := (4 : Int32)) hx hb dX12_isSign_11 (by decide) ?_
    refine lv_icmp_ne hx hb dX12_isSign_12 rfl (fun h => ?_) (fun h => ?_)
    · have hf := itn h hf
      refine lv_iconst (v := (0 : Int32)) hx hb dX12_isSign_29 (by decide) ?_
      exact zr_zretc X J (by decide) hf dX12_isSign_30
    · have hf := itp h hf
      refine lv_aload_n hx hb dX12_isSign_15 rfl (lv_at hl 0 rfl) ?_
      refine gf_X12_202 X J dX12_isSign_16 ?_
      refine lv_iload_n hx hb dX12_isSign_19 rfl (lv_at hl 1 rfl) ?_
      refine lv_i2l hx hb dX12_isSign_20 rfl ?_
      refine W.lcmp hx hb dX12_isSign_21 ?_
      refine lv_if_ne hx hb dX12_isSign_22 rfl (fun h => ?_) (fun h => ?_)
      · have hf := itn h hf
        refine lv_iconst (v := (0 : Int32)) hx hb dX12_isSign_29 (by decide) ?_
        exact zr_zretc X J (by decide) hf dX12_isSign_30
      · have hf := itp h hf
        refine lv_iconst (v := (1 : Int32)) hx hb dX12_isSign_25 (by decide) ?_
        refine lv_goto hx hb dX12_isSign_26 rfl ?_
        exact zr_zretc X J (by decide) hf dX12_isSign_30
set_option maxHeartbeats 4000000 in
theorem tX12_isWord {a1_ : Int32}  {σ u : zSt} {r : Int32} (hf : fX12_isWord N a1_ σ = some (r, u)) : zMi l yX12_isWord cX12_isWord 2 (some .boolean) (1) D cy shR ad ts lnR [.ref (ad 0), .int a1_] σ r u := by
  refine zM_of (by decide) (Nat.le_of_ble_eq_true rfl) (fun p e s m args below meth c ls ha X J hl => ?_)
  have hx := X.1
  have hb := X.2.1
  have hl : lv_has ls 2 [(0, .ref (ad 0)), (1, .int a1_)] := hl
  generalize s.heap = H at J ⊢
  generalize ([] : List Loc) = locs at J ⊢
  show W p l e (zRm (1)) s m args below meth c H locs 0 0 (zQi D cy shR ad ts lnR below args s (r, u)) (F0 m 0 ls [])
  unfold fX12_isWord at hf
  refine lv_aload_n hx hb dX12_isWord_0 rfl (lv_at hl 0 rfl) ?_
  obtain ⟨r1, σ2, hc, hf⟩ := obd_some hf
  refine zr_calli (As := []) (rest := []) X J 0 ho_R_X12.1 ho_R_X12.2.1 ho_R_X12.2.2 yy_X12_isWell mw_methodLink_TinyCModel_243_TinyCModel_isWell_Z (d := 0) (zR_ok (by omega) (by decide)) hl.1 rfl (Nat.le_of_ble_eq_true rfl) (tX12_isWell  hc) dX12_isWord_1 (fun H locs J => ?_)
  refine lv_if_eq hx hb dX12_isWord_4 rfl (fun h => ?_) (fun h => ?_)
  · have hf := itp h hf
    refine lv_iconst (v := (0 : Int32)) hx hb dX12_isWord_29 (by decide) ?_
    exact zr_zretc X J (by decide) hf dX12_isWord_30
  · have hf := itn h hf
    refine lv_aload_n hx hb dX12_isWord_7 rfl (lv_at hl 0 rfl) ?_
    refine gf_X12_206 X J dX12_isWord_8 ?_
    refine lv_iconst (v := (3 : Int32)) hx hb dX12_isWord_11 (by decide) ?_
    refine lv_icmp_ne hx hb dX12_isWord_12 rfl (fun h => ?_) (fun h => ?_)
    · have hf := itn h hf
      refine lv_iconst (v := (0 : Int32)) hx hb dX12_isWord_29 (by decide) ?_
      exact zr_zretc X J (by decide) hf dX12_isWord_30
    · have hf := itp h hf
      refine lv_aload_n hx hb dX12_isWord_15 rfl (lv_at hl 0 rfl) ?_
      refine gf_X12_202 X J dX12_isWord_16 ?_
      refine lv_iload_n hx hb dX12_isWord_19 rfl (lv_at hl 1 rfl) ?_
      refine lv_i2l hx hb dX12_isWord_20 rfl ?_
      refine W.lcmp hx hb dX12_isWord_21 ?_
      refine lv_if_ne hx hb dX12_isWord_22 rfl (fun h => ?_) (fun h => ?_)
      · have hf := itn h hf
        refine lv_iconst (v := (0 : Int32)) hx hb dX12_isWord_29 (by decide) ?_
        exact zr_zretc X J (by decide) hf dX12_isWord_30
      · have hf := itp h hf
        refine lv_iconst (v := (1 : Int32)) hx hb dX12_isWord_25 (by decide) ?_
        refine lv_goto hx hb dX12_isWord_26 rfl ?_
        exact zr_zretc X J (by decide) hf dX12_isWord_30
set_option maxHeartbeats 4000000 in
theorem tX12_takes {a1_ : Int32}  {σ u : zSt} {r : Unit} (hf : fX12_takes N a1_ σ = some (r, u)) : zMv l yX12_takes cX12_takes 2 none (3) D cy shR ad ts lnR [.ref (ad 0), .int a1_] σ u := by
  refine zM_of (by decide) (Nat.le_of_ble_eq_true rfl) (fun p e s m args below meth c ls ha X J hl => ?_)
  have hx := X.1
  have hb := X.2.1
  have hl : lv_has ls 2 [(0, .ref (ad 0)), (1, .int a1_)] := hl
  generalize s.heap = H at J ⊢
  generalize ([] : List Loc) = locs at J ⊢
  show W p l e (zRm (3)) s m args below meth c H locs 0 0 (zQv D cy shR ad ts lnR below args s (r, u)) (F0 m 0 ls [])
  unfold fX12_takes at hf
  refine lv_aload_n hx hb dX12_takes_0 rfl (lv_at hl 0 rfl) ?_
  refine lv_iload_n hx hb dX12_takes_1 rfl (lv_at hl 1 rfl) ?_
  obtain ⟨r1, σ2, hc, hf⟩ := obd_some hf
  refine zr_calli (As := [.int a1_]) (rest := []) X J 0 ho_R_X12.1 ho_R_X12.2.1 ho_R_X12.2.2 yy_X12_isSign mw_methodLink_TinyCModel_247_TinyCModel_isSign_IZ (d := 1) (zR_ok (by omega) (by decide)) hl.1 rfl (Nat.le_of_ble_eq_true rfl) (tX12_isSign  hc) dX12_takes_2 (fun H locs J => ?_)
  refine lv_if_eq hx hb dX12_takes_5 rfl (fun h => ?_) (fun h => ?_)
  · have hf := itp h hf
    refine lv_aload_n hx hb dX12_takes_15 rfl (lv_at hl 0 rfl) ?_
    obtain ⟨r3, σ4, hc, hf⟩ := obd_some hf
    refine zr_callv (As := []) (rest := []) X J 0 ho_R_X12.1 ho_R_X12.2.1 ho_R_X12.2.2 yy_X12_stray mw_methodLink_TinyCModel_253_TinyCModel_stray_V (d := 1) (zR_ok (by omega) (by decide)) hl.1 rfl (Nat.le_of_ble_eq_true rfl) (tX12_stray  hc) dX12_takes_16 (fun H locs J => ?_)
    exact zr_vret X J hf dX12_takes_19
  · have hf := itn h hf
    refine lv_aload_n hx hb dX12_takes_8 rfl (lv_at hl 0 rfl) ?_
    obtain ⟨r5, σ6, hc, hf⟩ := obd_some hf
    refine zr_callv (As := []) (rest := []) X J 0 ho_R_X12.1 ho_R_X12.2.1 ho_R_X12.2.2 yy_X12_next mw_methodLink_TinyCModel_250_TinyCModel_next_V (d := 2) (zR_ok (by omega) (by decide)) hl.1 rfl (Nat.le_of_ble_eq_true rfl) (tX12_next  hc) dX12_takes_9 (fun H locs J => ?_)
    refine lv_goto hx hb dX12_takes_12 rfl ?_
    exact zr_vret X J hf dX12_takes_19
set_option maxHeartbeats 4000000 in
theorem bX12_named_7 {o : Int32 × zSt} (X : zX p s m args meth c D cy shR ad ts cX12_named 4 (some .int) RX12)  : ∀ (n : Nat) (x1_ : Int64) (x3_ : Int32) (σ : zSt) (H : Heap) (locs : List Loc) (ls : Array Slot), zJ D cy shR ad lnR s σ H locs → lv_has ls 4 [(0, .ref (ad 0)), (1, .long x1_), (3, .int x3_)] → fX12_named_b7 N  n x1_ x3_ σ = some o → W p l e (zRm (0)) s m args below meth c H locs 0 0 (zQi D cy shR ad ts lnR below args s o) (F0 m 7 ls []) := by
  have hx := X.1
  have hb := X.2.1
  intro n
  induction n with
  | zero =>
    intro x1_ x3_ σ H locs ls J hl hf
    rw [fX12_named_b7] at hf
    cases hf
  | succ n ih =>
    intro x1_ x3_ σ H locs ls J hl hf
    rw [fX12_named_b7] at hf
    refine lv_iload_n hx hb dX12_named_7 rfl (lv_at hl 2 rfl) ?_
    refine lv_if_lt hx hb dX12_named_8 rfl (fun h => ?_) (fun h => ?_)
    · have hf := itp h hf
      refine lv_iload_n hx hb dX12_named_28 rfl (lv_at hl 2 rfl) ?_
      exact zr_iret X J hf dX12_named_29
    · have hf := itn h hf
      refine lv_aload_n hx hb dX12_named_11 rfl (lv_at hl 0 rfl) ?_
      refine gf_X12_28 X J dX12_named_12 ?_
      refine lv_iload_n hx hb dX12_named_15 rfl (lv_at hl 2 rfl) ?_
      obtain ⟨hin, hf⟩ := itx hf
      refine al_X12_X12f23 X J hin dX12_named_16 ?_
      refine lv_lload_n hx hb dX12_named_17 rfl (lv_at hl 1 rfl) ?_
      refine W.lcmp hx hb dX12_named_18 ?_
      refine lv_if_eq hx hb dX12_named_19 rfl (fun h => ?_) (fun h => ?_)
      · have hf := itp h hf
        refine lv_iload_n hx hb dX12_named_28 rfl (lv_at hl 2 rfl) ?_
        exact zr_iret X J hf dX12_named_29
      · have hf := itn h hf
        obtain ⟨x2, eq⟩ : ∃ z, z = x3_ + (-1 : Int32) := ⟨_, rfl⟩
        have hf := bnd_eq eq hf
        refine lv_iinc hx hb dX12_named_22 hl (k := 2) rfl (v := x2) (by rw [eq]; rfl) (by decide) rfl (fun ls hl => ?_)
        clear eq
        have hl : lv_has ls 4 [(3, .int x2), (0, .ref (ad 0)), (1, .long x1_)] := hl
        refine lv_goto hx hb dX12_named_25 rfl ?_
        exact ih _ _ _ _ _ _ J (lv_sub hl [1, 2, 0] rfl) hf
set_option maxHeartbeats 4000000 in
theorem tX12_named {a1_ : Int64}  {σ u : zSt} {r : Int32} (hf : fX12_named N a1_ σ = some (r, u)) : zMi l yX12_named cX12_named 4 (some .int) (0) D cy shR ad ts lnR [.ref (ad 0), .long a1_] σ r u := by
  refine zM_of (by decide) (Nat.le_of_ble_eq_true rfl) (fun p e s m args below meth c ls ha X J hl => ?_)
  have hx := X.1
  have hb := X.2.1
  have hl : lv_has ls 4 [(0, .ref (ad 0)), (1, .long a1_)] := hl
  generalize s.heap = H at J ⊢
  generalize ([] : List Loc) = locs at J ⊢
  show W p l e (zRm (0)) s m args below meth c H locs 0 0 (zQi D cy shR ad ts lnR below args s (r, u)) (F0 m 0 ls [])
  unfold fX12_named at hf
  refine lv_aload_n hx hb dX12_named_0 rfl (lv_at hl 0 rfl) ?_
  refine gf_X12_256 X J dX12_named_1 ?_
  refine lv_iconst (v := (1 : Int32)) hx hb dX12_named_4 (by decide) ?_
  refine lv_isub hx hb dX12_named_5 ?_
  refine lv_topi (fun x1 eq => ?_)
  have hf := bnd_eq eq hf
  clear eq
  refine lv_istore_n hx hb dX12_named_6 rfl hl (by decide) rfl (fun ls hl => ?_)
  have hl : lv_has ls 4 [(3, .int x1), (0, .ref (ad 0)), (1, .long a1_)] := hl
  exact bX12_named_7 X  N _ _ _ _ _ _ J (lv_sub hl [1, 2, 0] rfl) hf
set_option maxHeartbeats 4000000 in
theorem bX12_localOf_7 {o : Int32 × zSt} (X : zX p s m args meth c D cy shR ad ts cX12_localOf 4 (some .int) RX12)  : ∀ (n : Nat) (x1_ : Int64) (x3_ : Int32) (σ : zSt) (H : Heap) (locs : List Loc) (ls : Array Slot), zJ D cy shR ad lnR s σ H locs → lv_has ls 4 [(0, .ref (ad 0)), (1, .long x1_), (3, .int x3_)] → fX12_localOf_b7 N  n x1_ x3_ σ = some o → W p l e (zRm (0)) s m args below meth c H locs 0 0 (zQi D cy shR ad ts lnR below args s o) (F0 m 7 ls []) := by
  have hx := X.1
  have hb := X.2.1
  intro n
  induction n with
  | zero =>
    intro x1_ x3_ σ H locs ls J hl hf
    rw [fX12_localOf_b7] at hf
    cases hf
  | succ n ih =>
    intro x1_ x3_ σ H locs ls J hl hf
    rw [fX12_localOf_b7] at hf
    refine lv_iload_n hx hb dX12_localOf_7 rfl (lv_at hl 2 rfl) ?_
    refine lv_if_lt hx hb dX12_localOf_8 rfl (fun h => ?_) (fun h => ?_)
    · have hf := itp h hf
      refine lv_iload_n hx hb dX12_localOf_28 rfl (lv_at hl 2 rfl) ?_
      exact zr_iret X J hf dX12_localOf_29
    · have hf := itn h hf
      refine lv_aload_n hx hb dX12_localOf_11 rfl (lv_at hl 0 rfl) ?_
      refine gf_X12_47 X J dX12_localOf_12 ?_
      refine lv_iload_n hx hb dX12_localOf_15 rfl (lv_at hl 2 rfl) ?_
      obtain ⟨hin, hf⟩ := itx hf
      refine al_X12_X12f31 X J hin dX12_localOf_16 ?_
      refine lv_lload_n hx hb dX12_localOf_17 rfl (lv_at hl 1 rfl) ?_
      refine W.lcmp hx hb dX12_localOf_18 ?_
      refine lv_if_eq hx hb dX12_localOf_19 rfl (fun h => ?_) (fun h => ?_)
      · have hf := itp h hf
        refine lv_iload_n hx hb dX12_localOf_28 rfl (lv_at hl 2 rfl) ?_
        exact zr_iret X J hf dX12_localOf_29
      · have hf := itn h hf
        obtain ⟨x2, eq⟩ : ∃ z, z = x3_ + (-1 : Int32) := ⟨_, rfl⟩
        have hf := bnd_eq eq hf
        refine lv_iinc hx hb dX12_localOf_22 hl (k := 2) rfl (v := x2) (by rw [eq]; rfl) (by decide) rfl (fun ls hl => ?_)
        clear eq
        have hl : lv_has ls 4 [(3, .int x2), (0, .ref (ad 0)), (1, .long x1_)] := hl
        refine lv_goto hx hb dX12_localOf_25 rfl ?_
        exact ih _ _ _ _ _ _ J (lv_sub hl [1, 2, 0] rfl) hf
set_option maxHeartbeats 4000000 in
theorem tX12_localOf {a1_ : Int64}  {σ u : zSt} {r : Int32} (hf : fX12_localOf N a1_ σ = some (r, u)) : zMi l yX12_localOf cX12_localOf 4 (some .int) (0) D cy shR ad ts lnR [.ref (ad 0), .long a1_] σ r u := by
  refine zM_of (by decide) (Nat.le_of_ble_eq_true rfl) (fun p e s m args below meth c ls ha X J hl => ?_)
  have hx := X.1
  have hb := X.2.1
  have hl : lv_has ls 4 [(0, .ref (ad 0)), (1, .long a1_)] := hl
  generalize s.heap = H at J ⊢
  generalize ([] : List Loc) = locs at J ⊢
  show W p l e (zRm (0)) s m args below meth c H locs 0 0 (zQi D cy shR ad ts lnR below args s (r, u)) (F0 m 0 ls [])
  unfold fX12_localOf at hf
  refine lv_aload_n hx hb dX12_localOf_0 rfl (lv_at hl 0 rfl) ?_
  refine gf_X12_259 X J dX12_localOf_1 ?_
  refine lv_iconst (v := (1 : Int32)) hx hb dX12_localOf_4 (by decide) ?_
  refine lv_isub hx hb dX12_localOf_5 ?_
  refine lv_topi (fun x1 eq => ?_)
  have hf := bnd_eq eq hf
  clear eq
  refine lv_istore_n hx hb dX12_localOf_6 rfl hl (by decide) rfl (fun ls hl => ?_)
  have hl : lv_has ls 4 [(3, .int x1), (0, .ref (ad 0)), (1, .long a1_)] := hl
  exact bX12_localOf_7 X  N _ _ _ _ _ _ J (lv_sub hl [1, 2, 0] rfl) hf
set_option maxHeartbeats 4000000 in
theorem tX12_node {a1_ : Int32}  {σ u : zSt} {r : Int32} (hf : fX12_node N a1_ σ = some (r, u)) : zMi l yX12_node cX12_node 3 (some .int) (0) D cy shR ad ts lnR [.ref (ad 0), .int a1_] σ r u := by
  refine zM_of (by decide) (Nat.le_of_ble_eq_true rfl) (fun p e s m args below meth c ls ha X J hl => ?_)
  have hx := X.1
  have hb := X.2.1
  have hl : lv_has ls 3 [(0, .ref (ad 0)), (1, .int a1_)] := hl
  generalize s.heap = H at J ⊢
  generalize ([] : List Loc) = locs at J ⊢
  show W p l e (zRm (0)) s m args below meth c H locs 0 0 (zQi D cy shR ad ts lnR below args s (r, u)) (F0 m 0 ls [])
  unfold fX12_node at hf
  refine lv_aload_n hx hb dX12_node_0 rfl (lv_at hl 0 rfl) ?_
  refine gf_X12_262 X J dX12_node_1 ?_
  refine lv_topi (fun x1 eq => ?_)
  have hf := bnd_eq eq hf
  clear eq
  refine lv_istore_n hx hb dX12_node_4 rfl hl (by decide) rfl (fun ls hl => ?_)
  have hl : lv_has ls 3 [(2, .int x1), (0, .ref (ad 0)), (1, .int a1_)] := hl
  refine lv_aload_n hx hb dX12_node_5 rfl (lv_at hl 1 rfl) ?_
  refine lv_dup hx hb dX12_node_6 rfl ?_
  refine gf_X12_262 X J dX12_node_7 ?_
  refine lv_iconst (v := (1 : Int32)) hx hb dX12_node_10 (by decide) ?_
  refine lv_iadd hx hb dX12_node_11 ?_
  refine pf_X12_262 X J dX12_node_12 (fun σ2 H locs eq J => ?_)
  have hf := bnd_eq eq hf
  clear eq
  refine lv_aload_n hx hb dX12_node_15 rfl (lv_at hl 1 rfl) ?_
  refine gf_X12_53 X J dX12_node_16 ?_
  refine lv_iload_n hx hb dX12_node_19 rfl (lv_at hl 0 rfl) ?_
  refine lv_iload_n hx hb dX12_node_20 rfl (lv_at hl 2 rfl) ?_
  obtain ⟨hin, hf⟩ := itx hf
  refine as_X12_X12f39 X J hin dX12_node_21 (fun σ3 H locs eq J => ?_)
  have hf := bnd_eq eq hf
  clear eq
  refine lv_aload_n hx hb dX12_node_22 rfl (lv_at hl 1 rfl) ?_
  refine gf_X12_56 X J dX12_node_23 ?_
  refine lv_iload_n hx hb dX12_node_26 rfl (lv_at hl 0 rfl) ?_
  refine lv_iconst (v := (-1 : Int32)) hx hb dX12_node_27 (by decide) ?_
  obtain ⟨hin, hf⟩ := itx hf
  refine as_X12_X12f40 X J hin dX12_node_28 (fun σ4 H locs eq J => ?_)
  have hf := bnd_eq eq hf
  clear eq
  refine lv_aload_n hx hb dX12_node_29 rfl (lv_at hl 1 rfl) ?_
  refine gf_X12_59 X J dX12_node_30 ?_
  refine lv_iload_n hx hb dX12_node_33 rfl (lv_at hl 0 rfl) ?_
  refine lv_iconst (v := (-1 : Int32)) hx hb dX12_node_34 (by decide) ?_
  obtain ⟨hin, hf⟩ := itx hf
  refine as_X12_X12f41 X J hin dX12_node_35 (fun σ5 H locs eq J => ?_)
  have hf := bnd_eq eq hf
  clear eq
  refine lv_aload_n hx hb dX12_node_36 rfl (lv_at hl 1 rfl) ?_
  refine gf_X12_62 X J dX12_node_37 ?_
  refine lv_iload_n hx hb dX12_node_40 rfl (lv_at hl 0 rfl) ?_
  refine lv_iconst (v := (-1 : Int32)) hx hb dX12_node_41 (by decide) ?_
  obtain ⟨hin, hf⟩ := itx hf
  refine as_X12_X12f42 X J hin dX12_node_42 (fun σ6 H locs eq J => ?_)
  have hf := bnd_eq eq hf
  clear eq
  refine lv_aload_n hx hb dX12_node_43 rfl (lv_at hl 1 rfl) ?_
  refine gf_X12_65 X J dX12_node_44 ?_
  refine lv_iload_n hx hb dX12_node_47 rfl (lv_at hl 0 rfl) ?_
  refine lv_iconst (v := (0 : Int32)) hx hb dX12_node_48 (by decide) ?_
  obtain ⟨hin, hf⟩ := itx hf
  refine as_X12_X12f43 X J hin dX12_node_49 (fun σ7 H locs eq J => ?_)
  have hf := bnd_eq eq hf
  clear eq
  refine lv_aload_n hx hb dX12_node_50 rfl (lv_at hl 1 rfl) ?_
  refine gf_X12_68 X J dX12_node_51 ?_
  refine lv_iload_n hx hb dX12_node_54 rfl (lv_at hl 0 rfl) ?_
  refine lv_iconst (v := (0 : Int32)) hx hb dX12_node_55 (by decide) ?_
  obtain ⟨hin, hf⟩ := itx hf
  refine as_X12_X12f44 X J hin dX12_node_56 (fun σ8 H locs eq J => ?_)
  have hf := bnd_eq eq hf
  clear eq
  refine lv_aload_n hx hb dX12_node_57 rfl (lv_at hl 1 rfl) ?_
  refine gf_X12_71 X J dX12_node_58 ?_
  refine lv_iload_n hx hb dX12_node_61 rfl (lv_at hl 0 rfl) ?_
  refine lv_iconst (v := (-1 : Int32)) hx hb dX12_node_62 (by decide) ?_
  obtain ⟨hin, hf⟩ := itx hf
  refine as_X12_X12f45 X J hin dX12_node_63 (fun σ9 H locs eq J => ?_)
  have hf := bnd_eq eq hf
  clear eq
  refine lv_iload_n hx hb dX12_node_64 rfl (lv_at hl 0 rfl) ?_
  exact zr_iret X J hf dX12_node_65
end
