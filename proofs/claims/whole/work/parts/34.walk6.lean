section
variable {p : Program} {l : Launch} {e : Env} {s : State} {m : MethodId} {args : Array Value} {below : List Frame} {meth : Method} {c : Code} {D : va_G} {cy : Nat → ClassId} {ad ts : Nat → Nat} {ln : Nat → Nat} {N M : Nat}
set_option maxHeartbeats 4000000 in
theorem tX9_aOf {q_ : Nat} (hq_ : q_ = 11 ∨ q_ = 12) {a1_ : Int32}  {σ u : zSt} {r : Int32} (hf : fX9_aOf ln N M q_ a1_ σ = some (r, u)) : zMi l yX9_aOf cX9_aOf 2 (some .int) (0) D cy shC ad ts ln [.ref (ad q_), .int a1_] σ r u := by
  refine zM_of (by decide) (Nat.le_of_ble_eq_true rfl) (fun p e s m args below meth c ls ha X J hl => ?_)
  have hx := X.1
  have hb := X.2.1
  have hl : lv_has ls 2 [(0, .ref (ad q_)), (1, .int a1_)] := hl
  generalize s.heap = H at J ⊢
  generalize ([] : List Loc) = locs at J ⊢
  show W p l e (zRm (0)) s m args below meth c H locs 0 0 (zQi D cy shC ad ts ln below args s (r, u)) (F0 m 0 ls [])
  unfold fX9_aOf at hf
  refine lv_iload_n hx hb dX9_aOf_0 rfl (lv_at hl 1 rfl) ?_
  refine lv_if_lt hx hb dX9_aOf_1 rfl (fun h => ?_) (fun h => ?_)
  · have hf := itp h hf
    refine lv_iconst (v := (0 : Int32)) hx hb dX9_aOf_21 (by decide) ?_
    exact zr_iret X J hf dX9_aOf_22
  · have hf := itn h hf
    refine lv_iload_n hx hb dX9_aOf_4 rfl (lv_at hl 1 rfl) ?_
    refine lv_aload_n hx hb dX9_aOf_5 rfl (lv_at hl 0 rfl) ?_
    refine gf_X9_28 hq_ X J dX9_aOf_6 ?_
    refine lv_icmp_ge hx hb dX9_aOf_9 rfl (fun h => ?_) (fun h => ?_)
    · have hf := itp h hf
      refine lv_iconst (v := (0 : Int32)) hx hb dX9_aOf_21 (by decide) ?_
      exact zr_iret X J hf dX9_aOf_22
    · have hf := itn h hf
      refine lv_aload_n hx hb dX9_aOf_12 rfl (lv_at hl 0 rfl) ?_
      refine gf_X9_13 hq_ X J dX9_aOf_13 ?_
      refine lv_iload_n hx hb dX9_aOf_16 rfl (lv_at hl 1 rfl) ?_
      obtain ⟨hin, hf⟩ := itx hf
      refine al_X9_X9f1 hq_ X J hin dX9_aOf_17 ?_
      refine lv_goto hx hb dX9_aOf_18 rfl ?_
      exact zr_iret X J hf dX9_aOf_22
set_option maxHeartbeats 4000000 in
theorem tX10_pushValue {a1_ : Int32}  {σ u : zSt} {r : Unit} (hf : fX10_pushValue ln N M a1_ σ = some (r, u)) : zMv l yX10_pushValue cX10_pushValue 2 none (0) D cy shC ad ts ln [.ref (ad 8), .int a1_] σ u := by
  refine zM_of (by decide) (Nat.le_of_ble_eq_true rfl) (fun p e s m args below meth c ls ha X J hl => ?_)
  have hx := X.1
  have hb := X.2.1
  have hl : lv_has ls 2 [(0, .ref (ad 8)), (1, .int a1_)] := hl
  generalize s.heap = H at J ⊢
  generalize ([] : List Loc) = locs at J ⊢
  show W p l e (zRm (0)) s m args below meth c H locs 0 0 (zQv D cy shC ad ts ln below args s (r, u)) (F0 m 0 ls [])
  unfold fX10_pushValue at hf
  refine lv_aload_n hx hb dX10_pushValue_0 rfl (lv_at hl 0 rfl) ?_
  refine gf_X10_56 X J dX10_pushValue_1 ?_
  refine lv_if_lt hx hb dX10_pushValue_4 rfl (fun h => ?_) (fun h => ?_)
  · have hf := itp h hf
    exact zr_vret X J hf dX10_pushValue_39
  · have hf := itn h hf
    refine lv_aload_n hx hb dX10_pushValue_7 rfl (lv_at hl 0 rfl) ?_
    refine gf_X10_56 X J dX10_pushValue_8 ?_
    refine lv_aload_n hx hb dX10_pushValue_11 rfl (lv_at hl 0 rfl) ?_
    refine gf_X10_19 X J dX10_pushValue_12 ?_
    refine an_X10_X10f2 X J dX10_pushValue_15 ?_
    refine lv_icmp_ge hx hb dX10_pushValue_16 rfl (fun h => ?_) (fun h => ?_)
    · have hf := itp h hf
      exact zr_vret X J hf dX10_pushValue_39
    · have hf := itn h hf
      refine lv_aload_n hx hb dX10_pushValue_19 rfl (lv_at hl 0 rfl) ?_
      refine gf_X10_19 X J dX10_pushValue_20 ?_
      refine lv_aload_n hx hb dX10_pushValue_23 rfl (lv_at hl 0 rfl) ?_
      refine gf_X10_56 X J dX10_pushValue_24 ?_
      refine lv_iload_n hx hb dX10_pushValue_27 rfl (lv_at hl 1 rfl) ?_
      obtain ⟨hin, hf⟩ := itx hf
      refine as_X10_X10f2 X J hin dX10_pushValue_28 (fun σ1 H locs eq J => ?_)
      have hf := bnd_eq eq hf
      clear eq
      refine lv_aload_n hx hb dX10_pushValue_29 rfl (lv_at hl 0 rfl) ?_
      refine lv_dup hx hb dX10_pushValue_30 rfl ?_
      refine gf_X10_56 X J dX10_pushValue_31 ?_
      refine lv_iconst (v := (1 : Int32)) hx hb dX10_pushValue_34 (by decide) ?_
      refine lv_iadd hx hb dX10_pushValue_35 ?_
      refine pf_X10_56 X J dX10_pushValue_36 (fun σ2 H locs eq J => ?_)
      have hf := bnd_eq eq hf
      clear eq
      exact zr_vret X J hf dX10_pushValue_39
set_option maxHeartbeats 4000000 in
theorem tX10_globalAt {a1_ : Int32}  {σ u : zSt} {r : Int32} (hf : fX10_globalAt ln N M a1_ σ = some (r, u)) : zMi l yX10_globalAt cX10_globalAt 2 (some .int) (0) D cy shC ad ts ln [.ref (ad 8), .int a1_] σ r u := by
  refine zM_of (by decide) (Nat.le_of_ble_eq_true rfl) (fun p e s m args below meth c ls ha X J hl => ?_)
  have hx := X.1
  have hb := X.2.1
  have hl : lv_has ls 2 [(0, .ref (ad 8)), (1, .int a1_)] := hl
  generalize s.heap = H at J ⊢
  generalize ([] : List Loc) = locs at J ⊢
  show W p l e (zRm (0)) s m args below meth c H locs 0 0 (zQi D cy shC ad ts ln below args s (r, u)) (F0 m 0 ls [])
  unfold fX10_globalAt at hf
  refine lv_iload_n hx hb dX10_globalAt_0 rfl (lv_at hl 1 rfl) ?_
  refine lv_if_lt hx hb dX10_globalAt_1 rfl (fun h => ?_) (fun h => ?_)
  · have hf := itp h hf
    refine lv_iconst (v := (0 : Int32)) hx hb dX10_globalAt_22 (by decide) ?_
    exact zr_iret X J hf dX10_globalAt_23
  · have hf := itn h hf
    refine lv_iload_n hx hb dX10_globalAt_4 rfl (lv_at hl 1 rfl) ?_
    refine lv_aload_n hx hb dX10_globalAt_5 rfl (lv_at hl 0 rfl) ?_
    refine gf_X10_29 X J dX10_globalAt_6 ?_
    refine an_X10_X10f5 X J dX10_globalAt_9 ?_
    refine lv_icmp_ge hx hb dX10_globalAt_10 rfl (fun h => ?_) (fun h => ?_)
    · have hf := itp h hf
      refine lv_iconst (v := (0 : Int32)) hx hb dX10_globalAt_22 (by decide) ?_
      exact zr_iret X J hf dX10_globalAt_23
    · have hf := itn h hf
      refine lv_aload_n hx hb dX10_globalAt_13 rfl (lv_at hl 0 rfl) ?_
      refine gf_X10_29 X J dX10_globalAt_14 ?_
      refine lv_iload_n hx hb dX10_globalAt_17 rfl (lv_at hl 1 rfl) ?_
      obtain ⟨hin, hf⟩ := itx hf
      refine al_X10_X10f5 X J hin dX10_globalAt_18 ?_
      refine lv_goto hx hb dX10_globalAt_19 rfl ?_
      exact zr_iret X J hf dX10_globalAt_23
set_option maxHeartbeats 4000000 in
theorem tX10_cellOf {a1_ : Int32}  {σ u : zSt} {r : Int32} (hf : fX10_cellOf ln N M a1_ σ = some (r, u)) : zMi l yX10_cellOf cX10_cellOf 2 (some .int) (0) D cy shC ad ts ln [.ref (ad 8), .int a1_] σ r u := by
  refine zM_of (by decide) (Nat.le_of_ble_eq_true rfl) (fun p e s m args below meth c ls ha X J hl => ?_)
  have hx := X.1
  have hb := X.2.1
  have hl : lv_has ls 2 [(0, .ref (ad 8)), (1, .int a1_)] := hl
  generalize s.heap = H at J ⊢
  generalize ([] : List Loc) = locs at J ⊢
  show W p l e (zRm (0)) s m args below meth c H locs 0 0 (zQi D cy shC ad ts ln below args s (r, u)) (F0 m 0 ls [])
  unfold fX10_cellOf at hf
  refine lv_aload_n hx hb dX10_cellOf_0 rfl (lv_at hl 0 rfl) ?_
  refine gf_X10_62 X J dX10_cellOf_1 ?_
  refine lv_if_le hx hb dX10_cellOf_4 rfl (fun h => ?_) (fun h => ?_)
  · have hf := itp h hf
    refine lv_iconst (v := (-1 : Int32)) hx hb dX10_cellOf_19 (by decide) ?_
    exact zr_iret X J hf dX10_cellOf_20
  · have hf := itn h hf
    refine lv_aload_n hx hb dX10_cellOf_7 rfl (lv_at hl 0 rfl) ?_
    refine gf_X10_62 X J dX10_cellOf_8 ?_
    refine lv_aload_n hx hb dX10_cellOf_11 rfl (lv_at hl 0 rfl) ?_
    refine gf_X10_35 X J dX10_cellOf_12 ?_
    refine an_X10_X10f7 X J dX10_cellOf_15 ?_
    refine lv_icmp_le hx hb dX10_cellOf_16 rfl (fun h => ?_) (fun h => ?_)
    · have hf := itp h hf
      refine lv_aload_n hx hb dX10_cellOf_21 rfl (lv_at hl 0 rfl) ?_
      refine gf_X10_35 X J dX10_cellOf_22 ?_
      refine lv_aload_n hx hb dX10_cellOf_25 rfl (lv_at hl 0 rfl) ?_
      refine gf_X10_62 X J dX10_cellOf_26 ?_
      refine lv_iconst (v := (1 : Int32)) hx hb dX10_cellOf_29 (by decide) ?_
      refine lv_isub hx hb dX10_cellOf_30 ?_
      obtain ⟨hin, hf⟩ := itx hf
      refine al_X10_X10f7 X J hin dX10_cellOf_31 ?_
      refine lv_iload_n hx hb dX10_cellOf_32 rfl (lv_at hl 1 rfl) ?_
      refine lv_iadd hx hb dX10_cellOf_33 ?_
      exact zr_iret X J hf dX10_cellOf_34
    · have hf := itn h hf
      refine lv_iconst (v := (-1 : Int32)) hx hb dX10_cellOf_19 (by decide) ?_
      exact zr_iret X J hf dX10_cellOf_20
set_option maxHeartbeats 4000000 in
theorem tX10_localAt {a1_ : Int32}  {σ u : zSt} {r : Int32} (hf : fX10_localAt ln N M a1_ σ = some (r, u)) : zMi l yX10_localAt cX10_localAt 3 (some .int) (1) D cy shC ad ts ln [.ref (ad 8), .int a1_] σ r u := by
  refine zM_of (by decide) (Nat.le_of_ble_eq_true rfl) (fun p e s m args below meth c ls ha X J hl => ?_)
  have hx := X.1
  have hb := X.2.1
  have hl : lv_has ls 3 [(0, .ref (ad 8)), (1, .int a1_)] := hl
  generalize s.heap = H at J ⊢
  generalize ([] : List Loc) = locs at J ⊢
  show W p l e (zRm (1)) s m args below meth c H locs 0 0 (zQi D cy shC ad ts ln below args s (r, u)) (F0 m 0 ls [])
  unfold fX10_localAt at hf
  refine lv_aload_n hx hb dX10_localAt_0 rfl (lv_at hl 0 rfl) ?_
  refine lv_iload_n hx hb dX10_localAt_1 rfl (lv_at hl 1 rfl) ?_
  obtain ⟨r1, σ2, hc, hf⟩ := obd_some hf
  refine zr_calli (As := [.int a1_]) (rest := []) X J 8 ho_C_X10.1 ho_C_X10.2.1 ho_C_X10.2.2 yy_X10_cellOf mw_methodLink_TinyCWalker_220_TinyCWalker_cellOf_II (d := 0) (zR_ok (by omega) (by decide)) hl.1 rfl (Nat.le_of_ble_eq_true rfl) (tX10_cellOf  hc) dX10_localAt_2 (fun H locs J => ?_)
  refine lv_istore_n hx hb dX10_localAt_5 rfl hl (by decide) rfl (fun ls hl => ?_)
  have hl : lv_has ls 3 [(2, .int r1), (0, .ref (ad 8)), (1, .int a1_)] := hl
  refine lv_iload_n hx hb dX10_localAt_6 rfl (lv_at hl 0 rfl) ?_
  refine lv_if_lt hx hb dX10_localAt_7 rfl (fun h => ?_) (fun h => ?_)
  · have hf := itp h hf
    refine lv_iconst (v := (0 : Int32)) hx hb dX10_localAt_28 (by decide) ?_
    exact zr_iret X J hf dX10_localAt_29
  · have hf := itn h hf
    refine lv_iload_n hx hb dX10_localAt_10 rfl (lv_at hl 0 rfl) ?_
    refine lv_aload_n hx hb dX10_localAt_11 rfl (lv_at hl 1 rfl) ?_
    refine gf_X10_32 X J dX10_localAt_12 ?_
    refine an_X10_X10f6 X J dX10_localAt_15 ?_
    refine lv_icmp_ge hx hb dX10_localAt_16 rfl (fun h => ?_) (fun h => ?_)
    · have hf := itp h hf
      refine lv_iconst (v := (0 : Int32)) hx hb dX10_localAt_28 (by decide) ?_
      exact zr_iret X J hf dX10_localAt_29
    · have hf := itn h hf
      refine lv_aload_n hx hb dX10_localAt_19 rfl (lv_at hl 1 rfl) ?_
      refine gf_X10_32 X J dX10_localAt_20 ?_
      refine lv_iload_n hx hb dX10_localAt_23 rfl (lv_at hl 0 rfl) ?_
      obtain ⟨hin, hf⟩ := itx hf
      refine al_X10_X10f6 X J hin dX10_localAt_24 ?_
      refine lv_goto hx hb dX10_localAt_25 rfl ?_
      exact zr_iret X J hf dX10_localAt_29
set_option maxHeartbeats 4000000 in
theorem tX10_takeInput   {σ u : zSt} {r : Unit} (hf : fX10_takeInput ln N M  σ = some (r, u)) : zMv l yX10_takeInput cX10_takeInput 1 none (1) D cy shC ad ts ln [.ref (ad 8)] σ u := by
  refine zM_of (by decide) (Nat.le_of_ble_eq_true rfl) (fun p e s m args below meth c ls ha X J hl => ?_)
  have hx := X.1
  have hb := X.2.1
  have hl : lv_has ls 1 [(0, .ref (ad 8))] := hl
  generalize s.heap = H at J ⊢
  generalize ([] : List Loc) = locs at J ⊢
  show W p l e (zRm (1)) s m args below meth c H locs 0 0 (zQv D cy shC ad ts ln below args s (r, u)) (F0 m 0 ls [])
  unfold fX10_takeInput at hf
  refine lv_aload_n hx hb dX10_takeInput_0 rfl (lv_at hl 0 rfl) ?_
  refine gf_X10_15 X J dX10_takeInput_1 ?_
  obtain ⟨r1, σ2, hc, hf⟩ := obd_some hf
  refine zr_callNi (As := []) (rest := []) X J 6 ho_C_X8.1 ho_C_X8.2.1 ho_C_X8.2.2 yy_X8_hasInput mw_methodLinkNest_TinyCWalker_153_TinyCTape_hasInput_Z_TinyC (d := 0) (zR_ok (by omega) (by decide)) hl.1 rfl (Nat.le_of_ble_eq_true rfl) (tX8_hasInput  hc) dX10_takeInput_4 (fun H locs J => ?_)
  refine lv_if_eq hx hb dX10_takeInput_7 rfl (fun h => ?_) (fun h => ?_)
  · have hf := itp h hf
    refine lv_aload_n hx hb dX10_takeInput_24 rfl (lv_at hl 0 rfl) ?_
    refine lv_iconst (v := (5 : Int32)) hx hb dX10_takeInput_25 (by decide) ?_
    refine pf_X10_68 X J dX10_takeInput_26 (fun σ3 H locs eq J => ?_)
    have hf := bnd_eq eq hf
    clear eq
    exact zr_vret X J hf dX10_takeInput_29
  · have hf := itn h hf
    refine lv_aload_n hx hb dX10_takeInput_10 rfl (lv_at hl 0 rfl) ?_
    refine lv_aload_n hx hb dX10_takeInput_11 rfl (lv_at hl 0 rfl) ?_
    refine gf_X10_15 X J dX10_takeInput_12 ?_
    obtain ⟨r4, σ5, hc, hf⟩ := obd_some hf
    refine zr_callNi (As := []) (rest := [.ref (ad 8)]) X J 6 ho_C_X8.1 ho_C_X8.2.1 ho_C_X8.2.2 yy_X8_nextInput mw_methodLinkNest_TinyCWalker_157_TinyCTape_nextInput_I_TinyC (d := 0) (zR_ok (by omega) (by decide)) hl.1 rfl (Nat.le_of_ble_eq_true rfl) (tX8_nextInput  hc) dX10_takeInput_15 (fun H locs J => ?_)
    obtain ⟨r6, σ7, hc, hf⟩ := obd_some hf
    refine zr_callv (As := [.int r4]) (rest := []) X J 8 ho_C_X10.1 ho_C_X10.2.1 ho_C_X10.2.2 yy_X10_pushValue mw_methodLink_TinyCWalker_105_TinyCWalker_pushValue_IV (d := 0) (zR_ok (by omega) (by decide)) hl.1 rfl (Nat.le_of_ble_eq_true rfl) (tX10_pushValue  hc) dX10_takeInput_18 (fun H locs J => ?_)
    refine lv_goto hx hb dX10_takeInput_21 rfl ?_
    exact zr_vret X J hf dX10_takeInput_29
set_option maxHeartbeats 4000000 in
theorem tX9_cOf {q_ : Nat} (hq_ : q_ = 11 ∨ q_ = 12) {a1_ : Int32}  {σ u : zSt} {r : Int32} (hf : fX9_cOf ln N M q_ a1_ σ = some (r, u)) : zMi l yX9_cOf cX9_cOf 2 (some .int) (0) D cy shC ad ts ln [.ref (ad q_), .int a1_] σ r u := by
  refine zM_of (by decide) (Nat.le_of_ble_eq_true rfl) (fun p e s m args below meth c ls ha X J hl => ?_)
  have hx := X.1
  have hb := X.2.1
  have hl : lv_has ls 2 [(0, .ref (ad q_)), (1, .int a1_)] := hl
  generalize s.heap = H at J ⊢
  generalize ([] : List Loc) = locs at J ⊢
  show W p l e (zRm (0)) s m args below meth c H locs 0 0 (zQi D cy shC ad ts ln below args s (r, u)) (F0 m 0 ls [])
  unfold fX9_cOf at hf
  refine lv_iload_n hx hb dX9_cOf_0 rfl (lv_at hl 1 rfl) ?_
  refine lv_if_lt hx hb dX9_cOf_1 rfl (fun h => ?_) (fun h => ?_)
  · have hf := itp h hf
    refine lv_iconst (v := (-1 : Int32)) hx hb dX9_cOf_21 (by decide) ?_
    exact zr_iret X J hf dX9_cOf_22
  · have hf := itn h hf
    refine lv_iload_n hx hb dX9_cOf_4 rfl (lv_at hl 1 rfl) ?_
    refine lv_aload_n hx hb dX9_cOf_5 rfl (lv_at hl 0 rfl) ?_
    refine gf_X9_28 hq_ X J dX9_cOf_6 ?_
    refine lv_icmp_ge hx hb dX9_cOf_9 rfl (fun h => ?_) (fun h => ?_)
    · have hf := itp h hf
      refine lv_iconst (v := (-1 : Int32)) hx hb dX9_cOf_21 (by decide) ?_
      exact zr_iret X J hf dX9_cOf_22
    · have hf := itn h hf
      refine lv_aload_n hx hb dX9_cOf_12 rfl (lv_at hl 0 rfl) ?_
      refine gf_X9_19 hq_ X J dX9_cOf_13 ?_
      refine lv_iload_n hx hb dX9_cOf_16 rfl (lv_at hl 1 rfl) ?_
      obtain ⟨hin, hf⟩ := itx hf
      refine al_X9_X9f3 hq_ X J hin dX9_cOf_17 ?_
      refine lv_goto hx hb dX9_cOf_18 rfl ?_
      exact zr_iret X J hf dX9_cOf_22
set_option maxHeartbeats 4000000 in
theorem tX9_bOf {q_ : Nat} (hq_ : q_ = 11 ∨ q_ = 12) {a1_ : Int32}  {σ u : zSt} {r : Int32} (hf : fX9_bOf ln N M q_ a1_ σ = some (r, u)) : zMi l yX9_bOf cX9_bOf 2 (some .int) (0) D cy shC ad ts ln [.ref (ad q_), .int a1_] σ r u := by
  refine zM_of (by decide) (Nat.le_of_ble_eq_true rfl) (fun p e s m args below meth c ls ha X J hl => ?_)
  have hx := X.1
  have hb := X.2.1
  have hl : lv_has ls 2 [(0, .ref (ad q_)), (1, .int a1_)] := hl
  generalize s.heap = H at J ⊢
  generalize ([] : List Loc) = locs at J ⊢
  show W p l e (zRm (0)) s m args below meth c H locs 0 0 (zQi D cy shC ad ts ln below args s (r, u)) (F0 m 0 ls [])
  unfold fX9_bOf at hf
  refine lv_iload_n hx hb dX9_bOf_0 rfl (lv_at hl 1 rfl) ?_
  refine lv_if_lt hx hb dX9_bOf_1 rfl (fun h => ?_) (fun h => ?_)
  · have hf := itp h hf
    refine lv_iconst (v := (-1 : Int32)) hx hb dX9_bOf_21 (by decide) ?_
    exact zr_iret X J hf dX9_bOf_22
  · have hf := itn h hf
    refine lv_iload_n hx hb dX9_bOf_4 rfl (lv_at hl 1 rfl) ?_
    refine lv_aload_n hx hb dX9_bOf_5 rfl (lv_at hl 0 rfl) ?_
    refine gf_X9_28 hq_ X J dX9_bOf_6 ?_
    refine lv_icmp_ge hx hb dX9_bOf_9 rfl (fun h => ?_) (fun h => ?_)
    · have hf := itp h hf
      refine lv_iconst (v := (-1 : Int32)) hx hb dX9_bOf_21 (by decide) ?_
      exact zr_iret X J hf dX9_bOf_22
    · have hf := itn h hf
      refine lv_aload_n hx hb dX9_bOf_12 rfl (lv_at hl 0 rfl) ?_
      refine gf_X9_16 hq_ X J dX9_bOf_13 ?_
      refine lv_iload_n hx hb dX9_bOf_16 rfl (lv_at hl 1 rfl) ?_
      obtain ⟨hin, hf⟩ := itx hf
      refine al_X9_X9f2 hq_ X J hin dX9_bOf_17 ?_
      refine lv_goto hx hb dX9_bOf_18 rfl ?_
      exact zr_iret X J hf dX9_bOf_22
set_option maxHeartbeats 4000000 in
theorem bX10_takeTwoApart_45 {o : Unit × zSt} (X : zX p s m args meth c D cy shC ad ts cX10_takeTwoApart 2 none RX10)  {x1_ : Int32}  {σ : zSt} {H : Heap} {locs : List Loc} {ls : Array Slot} (J : zJ D cy shC ad ln s σ H locs) (hl : lv_has ls 2 [(0, .ref (ad 8)), (1, .int x1_)]) (hf : fX10_takeTwoApart_b45 ln N M  x1_ σ = some o) : W p l e (zRm (1)) s m args below meth c H locs 0 0 (zQv D cy shC ad ts ln below args s o) (F0 m 45 ls []) := by
  have hx := X.1
  have hb := X.2.1
  unfold fX10_takeTwoApart_b45 at hf
  refine lv_aload_n hx hb dX10_takeTwoApart_45 rfl (lv_at hl 0 rfl) ?_
  refine lv_iconst (v := (0 : Int32)) hx hb dX10_takeTwoApart_46 (by decide) ?_
  refine lv_aload_n hx hb dX10_takeTwoApart_47 rfl (lv_at hl 0 rfl) ?_
  obtain ⟨q6, hq6, er, hf⟩ := rbd_some hf
  refine gf_X10_44 X J er dX10_takeTwoApart_48 ?_
  refine lv_iload_n hx hb dX10_takeTwoApart_51 rfl (lv_at hl 1 rfl) ?_
  obtain ⟨r7, σ8, hc, hf⟩ := obd_some hf
  refine zr_callNi (As := [.int x1_]) (rest := [.int (0 : Int32), .ref (ad 8)]) X J q6 (ho_C_X9 hq6).1 (ho_C_X9 hq6).2.1 (ho_C_X9 hq6).2.2 yy_X9_bOf mw_methodLinkNest_TinyCWalker_150_TinyCTree_bOf_II_TinyC (d := 0) (zR_ok (by omega) (by decide)) hl.1 rfl (Nat.le_of_ble_eq_true rfl) (tX9_bOf hq6 hc) dX10_takeTwoApart_52 (fun H locs J => ?_)
  obtain ⟨r9, σ10, hc, hf⟩ := obd_some hf
  refine zr_callv (As := [.int (0 : Int32), .int r7]) (rest := []) X J 8 ho_C_X10.1 ho_C_X10.2.1 ho_C_X10.2.2 yy_X10_pushItem mw_methodLink_TinyCWalker_78_TinyCWalker_pushItem_IIV (d := 0) (zR_ok (by omega) (by decide)) hl.1 rfl (Nat.le_of_ble_eq_true rfl) (tX10_pushItem  hc) dX10_takeTwoApart_55 (fun H locs J => ?_)
  exact zr_vret X J hf dX10_takeTwoApart_58
set_option maxHeartbeats 4000000 in
theorem tX10_takeTwoApart {a1_ : Int32}  {σ u : zSt} {r : Unit} (hf : fX10_takeTwoApart ln N M a1_ σ = some (r, u)) : zMv l yX10_takeTwoApart cX10_takeTwoApart 2 none (1) D cy shC ad ts ln [.ref (ad 8), .int a1_] σ u := by
  refine zM_of (by decide) (Nat.le_of_ble_eq_true rfl) (fun p e s m args below meth c ls ha X J hl => ?_)
  have hx := X.1
  have hb := X.2.1
  have hl : lv_has ls 2 [(0, .ref (ad 8)), (1, .int a1_)] := hl
  generalize s.heap = H at J ⊢
  generalize ([] : List Loc) = locs at J ⊢
  show W p l e (zRm (1)) s m args below meth c H locs 0 0 (zQv D cy shC ad ts ln below args s (r, u)) (F0 m 0 ls [])
  unfold fX10_takeTwoApart at hf
  refine lv_aload_n hx hb dX10_takeTwoApart_0 rfl (lv_at hl 0 rfl) ?_
  refine lv_iconst (v := (1 : Int32)) hx hb dX10_takeTwoApart_1 (by decide) ?_
  refine lv_iload_n hx hb dX10_takeTwoApart_2 rfl (lv_at hl 1 rfl) ?_
  obtain ⟨r1, σ2, hc, hf⟩ := obd_some hf
  refine zr_callv (As := [.int (1 : Int32), .int a1_]) (rest := []) X J 8 ho_C_X10.1 ho_C_X10.2.1 ho_C_X10.2.2 yy_X10_pushItem mw_methodLink_TinyCWalker_78_TinyCWalker_pushItem_IIV (d := 0) (zR_ok (by omega) (by decide)) hl.1 rfl (Nat.le_of_ble_eq_true rfl) (tX10_pushItem  hc) dX10_takeTwoApart_3 (fun H locs J => ?_)
  refine lv_aload_n hx hb dX10_takeTwoApart_6 rfl (lv_at hl 0 rfl) ?_
  obtain ⟨q3, hq3, er, hf⟩ := rbd_some hf
  refine gf_X10_44 X J er dX10_takeTwoApart_7 ?_
  refine lv_iload_n hx hb dX10_takeTwoApart_10 rfl (lv_at hl 1 rfl) ?_
  obtain ⟨r4, σ5, hc, hf⟩ := obd_some hf
  refine zr_callNi (As := [.int a1_]) (rest := []) X J q3 (ho_C_X9 hq3).1 (ho_C_X9 hq3).2.1 (ho_C_X9 hq3).2.2 yy_X9_aOf mw_methodLinkNest_TinyCWalker_126_TinyCTree_aOf_II_TinyC (d := 0) (zR_ok (by omega) (by decide)) hl.1 rfl (Nat.le_of_ble_eq_true rfl) (tX9_aOf hq3 hc) dX10_takeTwoApart_11 (fun H locs J => ?_)
  refine lv_bipush (v := (8 : Int32)) hx hb dX10_takeTwoApart_14 (by decide) ?_
  refine lv_icmp_eq hx hb dX10_takeTwoApart_16 rfl (fun h => ?_) (fun h => ?_)
  · have hf := itp h hf
    exact bX10_takeTwoApart_45 X   J (lv_sub hl [0, 1] rfl) hf
  · have hf := itn h hf
    refine lv_aload_n hx hb dX10_takeTwoApart_19 rfl (lv_at hl 0 rfl) ?_
    obtain ⟨q11, hq11, er, hf⟩ := rbd_some hf
    refine gf_X10_44 X J er dX10_takeTwoApart_20 ?_
    refine lv_iload_n hx hb dX10_takeTwoApart_23 rfl (lv_at hl 1 rfl) ?_
    obtain ⟨r12, σ13, hc, hf⟩ := obd_some hf
    refine zr_callNi (As := [.int a1_]) (rest := []) X J q11 (ho_C_X9 hq11).1 (ho_C_X9 hq11).2.1 (ho_C_X9 hq11).2.2 yy_X9_aOf mw_methodLinkNest_TinyCWalker_126_TinyCTree_aOf_II_TinyC (d := 0) (zR_ok (by omega) (by decide)) hl.1 rfl (Nat.le_of_ble_eq_true rfl) (tX9_aOf hq11 hc) dX10_takeTwoApart_24 (fun H locs J => ?_)
    refine lv_bipush (v := (9 : Int32)) hx hb dX10_takeTwoApart_27 (by decide) ?_
    refine lv_icmp_eq hx hb dX10_takeTwoApart_29 rfl (fun h => ?_) (fun h => ?_)
    · have hf := itp h hf
      exact bX10_takeTwoApart_45 X   J (lv_sub hl [0, 1] rfl) hf
    · have hf := itn h hf
      refine lv_aload_n hx hb dX10_takeTwoApart_32 rfl (lv_at hl 0 rfl) ?_
      refine lv_iconst (v := (0 : Int32)) hx hb dX10_takeTwoApart_33 (by decide) ?_
      refine lv_aload_n hx hb dX10_takeTwoApart_34 rfl (lv_at hl 0 rfl) ?_
      obtain ⟨q14, hq14, er, hf⟩ := rbd_some hf
      refine gf_X10_44 X J er dX10_takeTwoApart_35 ?_
      refine lv_iload_n hx hb dX10_takeTwoApart_38 rfl (lv_at hl 1 rfl) ?_
      obtain ⟨r15, σ16, hc, hf⟩ := obd_some hf
      refine zr_callNi (As := [.int a1_]) (rest := [.int (0 : Int32), .ref (ad 8)]) X J q14 (ho_C_X9 hq14).1 (ho_C_X9 hq14).2.1 (ho_C_X9 hq14).2.2 yy_X9_cOf mw_methodLinkNest_TinyCWalker_160_TinyCTree_cOf_II_TinyC (d := 0) (zR_ok (by omega) (by decide)) hl.1 rfl (Nat.le_of_ble_eq_true rfl) (tX9_cOf hq14 hc) dX10_takeTwoApart_39 (fun H locs J => ?_)
      obtain ⟨r17, σ18, hc, hf⟩ := obd_some hf
      refine zr_callv (As := [.int (0 : Int32), .int r15]) (rest := []) X J 8 ho_C_X10.1 ho_C_X10.2.1 ho_C_X10.2.2 yy_X10_pushItem mw_methodLink_TinyCWalker_78_TinyCWalker_pushItem_IIV (d := 0) (zR_ok (by omega) (by decide)) hl.1 rfl (Nat.le_of_ble_eq_true rfl) (tX10_pushItem  hc) dX10_takeTwoApart_42 (fun H locs J => ?_)
      exact bX10_takeTwoApart_45 X   J (lv_sub hl [0, 1] rfl) hf
set_option maxHeartbeats 4000000 in
theorem tX9_has {q_ : Nat} (hq_ : q_ = 11 ∨ q_ = 12) {a1_ : Int32}  {σ u : zSt} {r : Int32} (hf : fX9_has ln N M q_ a1_ σ = some (r, u)) : zMi l yX9_has cX9_has 2 (some .boolean) (0) D cy shC ad ts ln [.ref (ad q_), .int a1_] σ r u := by
  refine zM_of (by decide) (Nat.le_of_ble_eq_true rfl) (fun p e s m args below meth c ls ha X J hl => ?_)
  have hx := X.1
  have hb := X.2.1
  have hl : lv_has ls 2 [(0, .ref (ad q_)), (1, .int a1_)] := hl
  generalize s.heap = H at J ⊢
  generalize ([] : List Loc) = locs at J ⊢
  show W p l e (zRm (0)) s m args below meth c H locs 0 0 (zQi D cy shC ad ts ln below args s (r, u)) (F0 m 0 ls [])
  unfold fX9_has at hf
  refine lv_iload_n hx hb dX9_has_0 rfl (lv_at hl 1 rfl) ?_
  refine lv_if_lt hx hb dX9_has_1 rfl (fun h => ?_) (fun h => ?_)
  · have hf := itp h hf
    refine lv_iconst (v := (0 : Int32)) hx hb dX9_has_16 (by decide) ?_
    exact zr_zretc X J (by decide) hf dX9_has_17
  · have hf := itn h hf
    refine lv_iload_n hx hb dX9_has_4 rfl (lv_at hl 1 rfl) ?_
    refine lv_aload_n hx hb dX9_has_5 rfl (lv_at hl 0 rfl) ?_
    refine gf_X9_28 hq_ X J dX9_has_6 ?_
    refine lv_icmp_ge hx hb dX9_has_9 rfl (fun h => ?_) (fun h => ?_)
    · have hf := itp h hf
      refine lv_iconst (v := (0 : Int32)) hx hb dX9_has_16 (by decide) ?_
      exact zr_zretc X J (by decide) hf dX9_has_17
    · have hf := itn h hf
      refine lv_iconst (v := (1 : Int32)) hx hb dX9_has_12 (by decide) ?_
      refine lv_goto hx hb dX9_has_13 rfl ?_
      exact zr_zretc X J (by decide) hf dX9_has_17
set_option maxHeartbeats 4000000 in
theorem tX9_nextOf {q_ : Nat} (hq_ : q_ = 11 ∨ q_ = 12) {a1_ : Int32}  {σ u : zSt} {r : Int32} (hf : fX9_nextOf ln N M q_ a1_ σ = some (r, u)) : zMi l yX9_nextOf cX9_nextOf 2 (some .int) (0) D cy shC ad ts ln [.ref (ad q_), .int a1_] σ r u := by
  refine zM_of (by decide) (Nat.le_of_ble_eq_true rfl) (fun p e s m args below meth c ls ha X J hl => ?_)
  have hx := X.1
  have hb := X.2.1
  have hl : lv_has ls 2 [(0, .ref (ad q_)), (1, .int a1_)] := hl
  generalize s.heap = H at J ⊢
  generalize ([] : List Loc) = locs at J ⊢
  show W p l e (zRm (0)) s m args below meth c H locs 0 0 (zQi D cy shC ad ts ln below args s (r, u)) (F0 m 0 ls [])
  unfold fX9_nextOf at hf
  refine lv_iload_n hx hb dX9_nextOf_0 rfl (lv_at hl 1 rfl) ?_
  refine lv_if_lt hx hb dX9_nextOf_1 rfl (fun h => ?_) (fun h => ?_)
  · have hf := itp h hf
    refine lv_iconst (v := (-1 : Int32)) hx hb dX9_nextOf_21 (by decide) ?_
    exact zr_iret X J hf dX9_nextOf_22
  · have hf := itn h hf
    refine lv_iload_n hx hb dX9_nextOf_4 rfl (lv_at hl 1 rfl) ?_
    refine lv_aload_n hx hb dX9_nextOf_5 rfl (lv_at hl 0 rfl) ?_
    refine gf_X9_28 hq_ X J dX9_nextOf_6 ?_
    refine lv_icmp_ge hx hb dX9_nextOf_9 rfl (fun h => ?_) (fun h => ?_)
    · have hf := itp h hf
      refine lv_iconst (v := (-1 : Int32)) hx hb dX9_nextOf_21 (by decide) ?_
      exact zr_iret X J hf dX9_nextOf_22
    · have hf := itn h hf
      refine lv_aload_n hx hb dX9_nextOf_12 rfl (lv_at hl 0 rfl) ?_
      refine gf_X9_25 hq_ X J dX9_nextOf_13 ?_
      refine lv_iload_n hx hb dX9_nextOf_16 rfl (lv_at hl 1 rfl) ?_
      obtain ⟨hin, hf⟩ := itx hf
      refine al_X9_X9f5 hq_ X J hin dX9_nextOf_17 ?_
      refine lv_goto hx hb dX9_nextOf_18 rfl ?_
      exact zr_iret X J hf dX9_nextOf_22
set_option maxHeartbeats 4000000 in
theorem bX10_takeCallApart_24 {o : Unit × zSt} (X : zX p s m args meth c D cy shC ad ts cX10_takeCallApart 4 none RX10)  : ∀ (n : Nat) (x2_ : Int32) (x3_ : Int32) (σ : zSt) (H : Heap) (locs : List Loc) (ls : Array Slot), zJ D cy shC ad ln s σ H locs → lv_has ls 4 [(0, .ref (ad 8)), (2, .int x2_), (3, .int x3_)] → fX10_takeCallApart_b24 ln N M  n x2_ x3_ σ = some o → W p l e (zRm (1)) s m args below meth c H locs 0 0 (zQv D cy shC ad ts ln below args s o) (F0 m 24 ls []) := by
  have hx := X.1
  have hb := X.2.1
  intro n
  induction n with
  | zero =>
    intro x2_ x3_ σ H locs ls J hl hf
    rw [fX10_takeCallApart_b24] at hf
    cases hf
  | succ n ih =>
    intro x2_ x3_ σ H locs ls J hl hf
    rw [fX10_takeCallApart_b24] at hf
    refine lv_iload_n hx hb dX10_takeCallApart_24 rfl (lv_at hl 2 rfl) ?_
    refine lv_bipush (v := (8 : Int32)) hx hb dX10_takeCallApart_25 (by decide) ?_
    refine lv_icmp_ge hx hb dX10_takeCallApart_27 rfl (fun h => ?_) (fun h => ?_)
    · have hf := itp h hf
      exact zr_vret X J hf dX10_takeCallApart_62
    · have hf := itn h hf
      refine lv_aload_n hx hb dX10_takeCallApart_30 rfl (lv_at hl 0 rfl) ?_
      obtain ⟨q10, hq10, er, hf⟩ := rbd_some hf
      refine gf_X10_44 X J er dX10_takeCallApart_31 ?_
      refine lv_iload_n hx hb dX10_takeCallApart_34 rfl (lv_at hl 1 rfl) ?_
      obtain ⟨r11, σ12, hc, hf⟩ := obd_some hf
      refine zr_callNi (As := [.int x2_]) (rest := []) X J q10 (ho_C_X9 hq10).1 (ho_C_X9 hq10).2.1 (ho_C_X9 hq10).2.2 yy_X9_has mw_methodLinkNest_TinyCWalker_163_TinyCTree_has_IZ_TinyC (d := 0) (zR_ok (by omega) (by decide)) hl.1 rfl (Nat.le_of_ble_eq_true rfl) (tX9_has hq10 hc) dX10_takeCallApart_35 (fun H locs J => ?_)
      refine lv_if_eq hx hb dX10_takeCallApart_38 rfl (fun h => ?_) (fun h => ?_)
      · have hf := itp h hf
        exact zr_vret X J hf dX10_takeCallApart_62
      · have hf := itn h hf
        refine lv_aload_n hx hb dX10_takeCallApart_41 rfl (lv_at hl 0 rfl) ?_
        refine lv_iconst (v := (0 : Int32)) hx hb dX10_takeCallApart_42 (by decide) ?_
        refine lv_iload_n hx hb dX10_takeCallApart_43 rfl (lv_at hl 1 rfl) ?_
        obtain ⟨r13, σ14, hc, hf⟩ := obd_some hf
        refine zr_callv (As := [.int (0 : Int32), .int x2_]) (rest := []) X J 8 ho_C_X10.1 ho_C_X10.2.1 ho_C_X10.2.2 yy_X10_pushItem mw_methodLink_TinyCWalker_78_TinyCWalker_pushItem_IIV (d := 0) (zR_ok (by omega) (by decide)) hl.1 rfl (Nat.le_of_ble_eq_true rfl) (tX10_pushItem  hc) dX10_takeCallApart_44 (fun H locs J => ?_)
        refine lv_aload_n hx hb dX10_takeCallApart_47 rfl (lv_at hl 0 rfl) ?_
        obtain ⟨q15, hq15, er, hf⟩ := rbd_some hf
        refine gf_X10_44 X J er dX10_takeCallApart_48 ?_
        refine lv_iload_n hx hb dX10_takeCallApart_51 rfl (lv_at hl 1 rfl) ?_
        obtain ⟨r16, σ17, hc, hf⟩ := obd_some hf
        refine zr_callNi (As := [.int x2_]) (rest := []) X J q15 (ho_C_X9 hq15).1 (ho_C_X9 hq15).2.1 (ho_C_X9 hq15).2.2 yy_X9_nextOf mw_methodLinkNest_TinyCWalker_166_TinyCTree_nextOf_II_TinyC (d := 0) (zR_ok (by omega) (by decide)) hl.1 rfl (Nat.le_of_ble_eq_true rfl) (tX9_nextOf hq15 hc) dX10_takeCallApart_52 (fun H locs J => ?_)
        refine lv_istore_n hx hb dX10_takeCallApart_55 rfl hl (by decide) rfl (fun ls hl => ?_)
        have hl : lv_has ls 4 [(2, .int r16), (0, .ref (ad 8)), (3, .int x3_)] := hl
        obtain ⟨x18, eq⟩ : ∃ z, z = x3_ + (1 : Int32) := ⟨_, rfl⟩
        have hf := bnd_eq eq hf
        refine lv_iinc hx hb dX10_takeCallApart_56 hl (k := 2) rfl (v := x18) (by rw [eq]; rfl) (by decide) rfl (fun ls hl => ?_)
        clear eq
        have hl : lv_has ls 4 [(3, .int x18), (2, .int r16), (0, .ref (ad 8))] := hl
        refine lv_goto hx hb dX10_takeCallApart_59 rfl ?_
        exact ih _ _ _ _ _ _ J (lv_sub hl [2, 1, 0] rfl) hf
set_option maxHeartbeats 4000000 in
theorem tX10_takeCallApart {a1_ : Int32}  {σ u : zSt} {r : Unit} (hf : fX10_takeCallApart ln N M a1_ σ = some (r, u)) : zMv l yX10_takeCallApart cX10_takeCallApart 4 none (1) D cy shC ad ts ln [.ref (ad 8), .int a1_] σ u := by
  refine zM_of (by decide) (Nat.le_of_ble_eq_true rfl) (fun p e s m args below meth c ls ha X J hl => ?_)
  have hx := X.1
  have hb := X.2.1
  have hl : lv_has ls 4 [(0, .ref (ad 8)), (1, .int a1_)] := hl
  generalize s.heap = H at J ⊢
  generalize ([] : List Loc) = locs at J ⊢
  show W p l e (zRm (1)) s m args below meth c H locs 0 0 (zQv D cy shC ad ts ln below args s (r, u)) (F0 m 0 ls [])
  unfold fX10_takeCallApart at hf
  refine lv_aload_n hx hb dX10_takeCallApart_0 rfl (lv_at hl 0 rfl) ?_
  refine lv_iconst (v := (3 : Int32)) hx hb dX10_takeCallApart_1 (by decide) ?_
  refine lv_aload_n hx hb dX10_takeCallApart_2 rfl (lv_at hl 0 rfl) ?_
  obtain ⟨q1, hq1, er, hf⟩ := rbd_some hf
  refine gf_X10_44 X J er dX10_takeCallApart_3 ?_
  refine lv_iload_n hx hb dX10_takeCallApart_6 rfl (lv_at hl 1 rfl) ?_
  obtain ⟨r2, σ3, hc, hf⟩ := obd_some hf
  refine zr_callNi (As := [.int a1_]) (rest := [.int (3 : Int32), .ref (ad 8)]) X J q1 (ho_C_X9 hq1).1 (ho_C_X9 hq1).2.1 (ho_C_X9 hq1).2.2 yy_X9_aOf mw_methodLinkNest_TinyCWalker_126_TinyCTree_aOf_II_TinyC (d := 0) (zR_ok (by omega) (by decide)) hl.1 rfl (Nat.le_of_ble_eq_true rfl) (tX9_aOf hq1 hc) dX10_takeCallApart_7 (fun H locs J => ?_)
  obtain ⟨r4, σ5, hc, hf⟩ := obd_some hf
  refine zr_callv (As := [.int (3 : Int32), .int r2]) (rest := []) X J 8 ho_C_X10.1 ho_C_X10.2.1 ho_C_X10.2.2 yy_X10_pushItem mw_methodLink_TinyCWalker_78_TinyCWalker_pushItem_IIV (d := 0) (zR_ok (by omega) (by decide)) hl.1 rfl (Nat.le_of_ble_eq_true rfl) (tX10_pushItem  hc) dX10_takeCallApart_10 (fun H locs J => ?_)
  refine lv_aload_n hx hb dX10_takeCallApart_13 rfl (lv_at hl 0 rfl) ?_
  obtain ⟨q6, hq6, er, hf⟩ := rbd_some hf
  refine gf_X10_44 X J er dX10_takeCallApart_14 ?_
  refine lv_iload_n hx hb dX10_takeCallApart_17 rfl (lv_at hl 1 rfl) ?_
  obtain ⟨r7, σ8, hc, hf⟩ := obd_some hf
  refine zr_callNi (As := [.int a1_]) (rest := []) X J q6 (ho_C_X9 hq6).1 (ho_C_X9 hq6).2.1 (ho_C_X9 hq6).2.2 yy_X9_bOf mw_methodLinkNest_TinyCWalker_150_TinyCTree_bOf_II_TinyC (d := 0) (zR_ok (by omega) (by decide)) hl.1 rfl (Nat.le_of_ble_eq_true rfl) (tX9_bOf hq6 hc) dX10_takeCallApart_18 (fun H locs J => ?_)
  refine lv_istore_n hx hb dX10_takeCallApart_21 rfl hl (by decide) rfl (fun ls hl => ?_)
  have hl : lv_has ls 4 [(2, .int r7), (0, .ref (ad 8)), (1, .int a1_)] := hl
  refine lv_iconst (v := (0 : Int32)) hx hb dX10_takeCallApart_22 (by decide) ?_
  refine lv_topi (fun x9 eq => ?_)
  have hf := bnd_eq eq hf
  clear eq
  refine lv_istore_n hx hb dX10_takeCallApart_23 rfl hl (by decide) rfl (fun ls hl => ?_)
  have hl : lv_has ls 4 [(3, .int x9), (2, .int r7), (0, .ref (ad 8)), (1, .int a1_)] := hl
  exact bX10_takeCallApart_24 X  N _ _ _ _ _ _ J (lv_sub hl [2, 1, 0] rfl) hf
set_option maxHeartbeats 4000000 in
theorem tX10_openRow {a1_ : Int32}  {σ u : zSt} {r : Unit} (hf : fX10_openRow ln N M a1_ σ = some (r, u)) : zMv l yX10_openRow cX10_openRow 2 none (1) D cy shC ad ts ln [.ref (ad 8), .int a1_] σ u := by
  refine zM_of (by decide) (Nat.le_of_ble_eq_true rfl) (fun p e s m args below meth c ls ha X J hl => ?_)
  have hx := X.1
  have hb := X.2.1
  have hl : lv_has ls 2 [(0, .ref (ad 8)), (1, .int a1_)] := hl
  generalize s.heap = H at J ⊢
  generalize ([] : List Loc) = locs at J ⊢
  show W p l e (zRm (1)) s m args below meth c H locs 0 0 (zQv D cy shC ad ts ln below args s (r, u)) (F0 m 0 ls [])
  unfold fX10_openRow at hf
  refine lv_aload_n hx hb dX10_openRow_0 rfl (lv_at hl 0 rfl) ?_
  obtain ⟨q1, hq1, er, hf⟩ := rbd_some hf
  refine gf_X10_44 X J er dX10_openRow_1 ?_
  refine lv_aload_n hx hb dX10_openRow_4 rfl (lv_at hl 0 rfl) ?_
  obtain ⟨q2, hq2, er, hf⟩ := rbd_some hf
  refine gf_X10_44 X J er dX10_openRow_5 ?_
  refine lv_iload_n hx hb dX10_openRow_8 rfl (lv_at hl 1 rfl) ?_
  obtain ⟨r3, σ4, hc, hf⟩ := obd_some hf
  refine zr_callNi (As := [.int a1_]) (rest := [.ref (ad q1)]) X J q2 (ho_C_X9 hq2).1 (ho_C_X9 hq2).2.1 (ho_C_X9 hq2).2.2 yy_X9_bOf mw_methodLinkNest_TinyCWalker_150_TinyCTree_bOf_II_TinyC (d := 0) (zR_ok (by omega) (by decide)) hl.1 rfl (Nat.le_of_ble_eq_true rfl) (tX9_bOf hq2 hc) dX10_openRow_9 (fun H locs J => ?_)
  obtain ⟨r5, σ6, hc, hf⟩ := obd_some hf
  refine zr_callNi (As := [.int r3]) (rest := []) X J q1 (ho_C_X9 hq1).1 (ho_C_X9 hq1).2.1 (ho_C_X9 hq1).2.2 yy_X9_has mw_methodLinkNest_TinyCWalker_163_TinyCTree_has_IZ_TinyC (d := 0) (zR_ok (by omega) (by decide)) hl.1 rfl (Nat.le_of_ble_eq_true rfl) (tX9_has hq1 hc) dX10_openRow_12 (fun H locs J => ?_)
  refine lv_if_eq hx hb dX10_openRow_15 rfl (fun h => ?_) (fun h => ?_)
  · have hf := itp h hf
    exact zr_vret X J hf dX10_openRow_31
  · have hf := itn h hf
    refine lv_aload_n hx hb dX10_openRow_18 rfl (lv_at hl 0 rfl) ?_
    refine lv_iconst (v := (5 : Int32)) hx hb dX10_openRow_19 (by decide) ?_
    refine lv_aload_n hx hb dX10_openRow_20 rfl (lv_at hl 0 rfl) ?_
    obtain ⟨q7, hq7, er, hf⟩ := rbd_some hf
    refine gf_X10_44 X J er dX10_openRow_21 ?_
    refine lv_iload_n hx hb dX10_openRow_24 rfl (lv_at hl 1 rfl) ?_
    obtain ⟨r8, σ9, hc, hf⟩ := obd_some hf
    refine zr_callNi (As := [.int a1_]) (rest := [.int (5 : Int32), .ref (ad 8)]) X J q7 (ho_C_X9 hq7).1 (ho_C_X9 hq7).2.1 (ho_C_X9 hq7).2.2 yy_X9_bOf mw_methodLinkNest_TinyCWalker_150_TinyCTree_bOf_II_TinyC (d := 0) (zR_ok (by omega) (by decide)) hl.1 rfl (Nat.le_of_ble_eq_true rfl) (tX9_bOf hq7 hc) dX10_openRow_25 (fun H locs J => ?_)
    obtain ⟨r10, σ11, hc, hf⟩ := obd_some hf
    refine zr_callv (As := [.int (5 : Int32), .int r8]) (rest := []) X J 8 ho_C_X10.1 ho_C_X10.2.1 ho_C_X10.2.2 yy_X10_pushItem mw_methodLink_TinyCWalker_78_TinyCWalker_pushItem_IIV (d := 0) (zR_ok (by omega) (by decide)) hl.1 rfl (Nat.le_of_ble_eq_true rfl) (tX10_pushItem  hc) dX10_openRow_28 (fun H locs J => ?_)
    exact zr_vret X J hf dX10_openRow_31
set_option maxHeartbeats 4000000 in
theorem tX10_setFrameCell {a1_ : Int32} {a2_ : Int32}  {σ u : zSt} {r : Unit} (hf : fX10_setFrameCell ln N M a1_ a2_ σ = some (r, u)) : zMv l yX10_setFrameCell cX10_setFrameCell 3 none (0) D cy shC ad ts ln [.ref (ad 8), .int a1_, .int a2_] σ u := by
  refine zM_of (by decide) (Nat.le_of_ble_eq_true rfl) (fun p e s m args below meth c ls ha X J hl => ?_)
  have hx := X.1
  have hb := X.2.1
  have hl : lv_has ls 3 [(0, .ref (ad 8)), (1, .int a1_), (2, .int a2_)] := hl
  generalize s.heap = H at J ⊢
  generalize ([] : List Loc) = locs at J ⊢
  show W p l e (zRm (0)) s m args below meth c H locs 0 0 (zQv D cy shC ad ts ln below args s (r, u)) (F0 m 0 ls [])
  unfold fX10_setFrameCell at hf
  refine lv_iload_n hx hb dX10_setFrameCell_0 rfl (lv_at hl 1 rfl) ?_
  refine lv_if_lt hx hb dX10_setFrameCell_1 rfl (fun h => ?_) (fun h => ?_)
  · have hf := itp h hf
    exact zr_vret X J hf dX10_setFrameCell_20
  · have hf := itn h hf
    refine lv_iload_n hx hb dX10_setFrameCell_4 rfl (lv_at hl 1 rfl) ?_
    refine lv_aload_n hx hb dX10_setFrameCell_5 rfl (lv_at hl 0 rfl) ?_
    refine gf_X10_32 X J dX10_setFrameCell_6 ?_
    refine an_X10_X10f6 X J dX10_setFrameCell_9 ?_
    refine lv_icmp_ge hx hb dX10_setFrameCell_10 rfl (fun h => ?_) (fun h => ?_)
    · have hf := itp h hf
      exact zr_vret X J hf dX10_setFrameCell_20
    · have hf := itn h hf
      refine lv_aload_n hx hb dX10_setFrameCell_13 rfl (lv_at hl 0 rfl) ?_
      refine gf_X10_32 X J dX10_setFrameCell_14 ?_
      refine lv_iload_n hx hb dX10_setFrameCell_17 rfl (lv_at hl 1 rfl) ?_
      refine lv_iload_n hx hb dX10_setFrameCell_18 rfl (lv_at hl 2 rfl) ?_
      obtain ⟨hin, hf⟩ := itx hf
      refine as_X10_X10f6 X J hin dX10_setFrameCell_19 (fun σ1 H locs eq J => ?_)
      have hf := bnd_eq eq hf
      clear eq
      exact zr_vret X J hf dX10_setFrameCell_20
set_option maxHeartbeats 4000000 in
theorem tX10_setLocal {a1_ : Int32} {a2_ : Int32}  {σ u : zSt} {r : Unit} (hf : fX10_setLocal ln N M a1_ a2_ σ = some (r, u)) : zMv l yX10_setLocal cX10_setLocal 3 none (1) D cy shC ad ts ln [.ref (ad 8), .int a1_, .int a2_] σ u := by
  refine zM_of (by decide) (Nat.le_of_ble_eq_true rfl) (fun p e s m args below meth c ls ha X J hl => ?_)
  have hx := X.1
  have hb := X.2.1
  have hl : lv_has ls 3 [(0, .ref (ad 8)), (1, .int a1_), (2, .int a2_)] := hl
  generalize s.heap = H at J ⊢
  generalize ([] : List Loc) = locs at J ⊢
  show W p l e (zRm (1)) s m args below meth c H locs 0 0 (zQv D cy shC ad ts ln below args s (r, u)) (F0 m 0 ls [])
  unfold fX10_setLocal at hf
  refine lv_aload_n hx hb dX10_setLocal_0 rfl (lv_at hl 0 rfl) ?_
  refine lv_aload_n hx hb dX10_setLocal_1 rfl (lv_at hl 0 rfl) ?_
  refine lv_iload_n hx hb dX10_setLocal_2 rfl (lv_at hl 1 rfl) ?_
  obtain ⟨r1, σ2, hc, hf⟩ := obd_some hf
  refine zr_calli (As := [.int a1_]) (rest := [.ref (ad 8)]) X J 8 ho_C_X10.1 ho_C_X10.2.1 ho_C_X10.2.2 yy_X10_cellOf mw_methodLink_TinyCWalker_220_TinyCWalker_cellOf_II (d := 0) (zR_ok (by omega) (by decide)) hl.1 rfl (Nat.le_of_ble_eq_true rfl) (tX10_cellOf  hc) dX10_setLocal_3 (fun H locs J => ?_)
  refine lv_iload_n hx hb dX10_setLocal_6 rfl (lv_at hl 2 rfl) ?_
  obtain ⟨r3, σ4, hc, hf⟩ := obd_some hf
  refine zr_callv (As := [.int r1, .int a2_]) (rest := []) X J 8 ho_C_X10.1 ho_C_X10.2.1 ho_C_X10.2.2 yy_X10_setFrameCell mw_methodLink_TinyCWalker_214_TinyCWalker_setFrameCell_IIV (d := 0) (zR_ok (by omega) (by decide)) hl.1 rfl (Nat.le_of_ble_eq_true rfl) (tX10_setFrameCell  hc) dX10_setLocal_7 (fun H locs J => ?_)
  exact zr_vret X J hf dX10_setLocal_10
set_option maxHeartbeats 4000000 in
theorem tX10_takeLocalApart {a1_ : Int32}  {σ u : zSt} {r : Unit} (hf : fX10_takeLocalApart ln N M a1_ σ = some (r, u)) : zMv l yX10_takeLocalApart cX10_takeLocalApart 2 none (2) D cy shC ad ts ln [.ref (ad 8), .int a1_] σ u := by
  refine zM_of (by decide) (Nat.le_of_ble_eq_true rfl) (fun p e s m args below meth c ls ha X J hl => ?_)
  have hx := X.1
  have hb := X.2.1
  have hl : lv_has ls 2 [(0, .ref (ad 8)), (1, .int a1_)] := hl
  generalize s.heap = H at J ⊢
  generalize ([] : List Loc) = locs at J ⊢
  show W p l e (zRm (2)) s m args below meth c H locs 0 0 (zQv D cy shC ad ts ln below args s (r, u)) (F0 m 0 ls [])
  unfold fX10_takeLocalApart at hf
  refine lv_aload_n hx hb dX10_takeLocalApart_0 rfl (lv_at hl 0 rfl) ?_
  obtain ⟨q1, hq1, er, hf⟩ := rbd_some hf
  refine gf_X10_44 X J er dX10_takeLocalApart_1 ?_
  refine lv_aload_n hx hb dX10_takeLocalApart_4 rfl (lv_at hl 0 rfl) ?_
  obtain ⟨q2, hq2, er, hf⟩ := rbd_some hf
  refine gf_X10_44 X J er dX10_takeLocalApart_5 ?_
  refine lv_iload_n hx hb dX10_takeLocalApart_8 rfl (lv_at hl 1 rfl) ?_
  obtain ⟨r3, σ4, hc, hf⟩ := obd_some hf
  refine zr_callNi (As := [.int a1_]) (rest := [.ref (ad q1)]) X J q2 (ho_C_X9 hq2).1 (ho_C_X9 hq2).2.1 (ho_C_X9 hq2).2.2 yy_X9_bOf mw_methodLinkNest_TinyCWalker_150_TinyCTree_bOf_II_TinyC (d := 0) (zR_ok (by omega) (by decide)) hl.1 rfl (Nat.le_of_ble_eq_true rfl) (tX9_bOf hq2 hc) dX10_takeLocalApart_9 (fun H locs J => ?_)
  obtain ⟨r5, σ6, hc, hf⟩ := obd_some hf
  refine zr_callNi (As := [.int r3]) (rest := []) X J q1 (ho_C_X9 hq1).1 (ho_C_X9 hq1).2.1 (ho_C_X9 hq1).2.2 yy_X9_has mw_methodLinkNest_TinyCWalker_163_TinyCTree_has_IZ_TinyC (d := 0) (zR_ok (by omega) (by decide)) hl.1 rfl (Nat.le_of_ble_eq_true rfl) (tX9_has hq1 hc) dX10_takeLocalApart_12 (fun H locs J => ?_)
  refine lv_if_eq hx hb dX10_takeLocalApart_15 rfl (fun h => ?_) (fun h => ?_)
  · have hf := itp h hf
    refine lv_aload_n hx hb dX10_takeLocalApart_40 rfl (lv_at hl 0 rfl) ?_
    refine lv_aload_n hx hb dX10_takeLocalApart_41 rfl (lv_at hl 0 rfl) ?_
    obtain ⟨q7, hq7, er, hf⟩ := rbd_some hf
    refine gf_X10_44 X J er dX10_takeLocalApart_42 ?_
    refine lv_iload_n hx hb dX10_takeLocalApart_45 rfl (lv_at hl 1 rfl) ?_
    obtain ⟨r8, σ9, hc, hf⟩ := obd_some hf
    refine zr_callNi (As := [.int a1_]) (rest := [.ref (ad 8)]) X J q7 (ho_C_X9 hq7).1 (ho_C_X9 hq7).2.1 (ho_C_X9 hq7).2.2 yy_X9_aOf mw_methodLinkNest_TinyCWalker_126_TinyCTree_aOf_II_TinyC (d := 0) (zR_ok (by omega) (by decide)) hl.1 rfl (Nat.le_of_ble_eq_true rfl) (tX9_aOf hq7 hc) dX10_takeLocalApart_46 (fun H locs J => ?_)
    refine lv_iconst (v := (0 : Int32)) hx hb dX10_takeLocalApart_49 (by decide) ?_
    obtain ⟨r10, σ11, hc, hf⟩ := obd_some hf
    refine zr_callv (As := [.int r8, .int (0 : Int32)]) (rest := []) X J 8 ho_C_X10.1 ho_C_X10.2.1 ho_C_X10.2.2 yy_X10_setLocal mw_methodLink_TinyCWalker_169_TinyCWalker_setLocal_IIV (d := 1) (zR_ok (by omega) (by decide)) hl.1 rfl (Nat.le_of_ble_eq_true rfl) (tX10_setLocal  hc) dX10_takeLocalApart_50 (fun H locs J => ?_)
    exact zr_vret X J hf dX10_takeLocalApart_53
  · have hf := itn h hf
    refine lv_aload_n hx hb dX10_takeLocalApart_18 rfl (lv_at hl 0 rfl) ?_
    refine lv_iconst (v := (1 : Int32)) hx hb dX10_takeLocalApart_19 (by decide) ?_
    refine lv_iload_n hx hb dX10_takeLocalApart_20 rfl (lv_at hl 1 rfl) ?_
    obtain ⟨r12, σ13, hc, hf⟩ := obd_some hf
    refine zr_callv (As := [.int (1 : Int32), .int a1_]) (rest := []) X J 8 ho_C_X10.1 ho_C_X10.2.1 ho_C_X10.2.2 yy_X10_pushItem mw_methodLink_TinyCWalker_78_TinyCWalker_pushItem_IIV (d := 0) (zR_ok (by omega) (by decide)) hl.1 rfl (Nat.le_of_ble_eq_true rfl) (tX10_pushItem  hc) dX10_takeLocalApart_21 (fun H locs J => ?_)
    refine lv_aload_n hx hb dX10_takeLocalApart_24 rfl (lv_at hl 0 rfl) ?_
    refine lv_iconst (v := (0 : Int32)) hx hb dX10_takeLocalApart_25 (by decide) ?_
    refine lv_aload_n hx hb dX10_takeLocalApart_26 rfl (lv_at hl 0 rfl) ?_
    obtain ⟨q14, hq14, er, hf⟩ := rbd_some hf
    refine gf_X10_44 X J er dX10_takeLocalApart_27 ?_
    refine lv_iload_n hx hb dX10_takeLocalApart_30 rfl (lv_at hl 1 rfl) ?_
    obtain ⟨r15, σ16, hc, hf⟩ := obd_some hf
    refine zr_callNi (As := [.int a1_]) (rest := [.int (0 : Int32), .ref (ad 8)]) X J q14 (ho_C_X9 hq14).1 (ho_C_X9 hq14).2.1 (ho_C_X9 hq14).2.2 yy_X9_bOf mw_methodLinkNest_TinyCWalker_150_TinyCTree_bOf_II_TinyC (d := 0) (zR_ok (by omega) (by decide)) hl.1 rfl (Nat.le_of_ble_eq_true rfl) (tX9_bOf hq14 hc) dX10_takeLocalApart_31 (fun H locs J => ?_)
    obtain ⟨r17, σ18, hc, hf⟩ := obd_some hf
    refine zr_callv (As := [.int (0 : Int32), .int r15]) (rest := []) X J 8 ho_C_X10.1 ho_C_X10.2.1 ho_C_X10.2.2 yy_X10_pushItem mw_methodLink_TinyCWalker_78_TinyCWalker_pushItem_IIV (d := 0) (zR_ok (by omega) (by decide)) hl.1 rfl (Nat.le_of_ble_eq_true rfl) (tX10_pushItem  hc) dX10_takeLocalApart_34 (fun H locs J => ?_)
    refine lv_goto hx hb dX10_takeLocalApart_37 rfl ?_
    exact zr_vret X J hf dX10_takeLocalApart_53
set_option maxHeartbeats 4000000 in
theorem tX9_dOf {q_ : Nat} (hq_ : q_ = 11 ∨ q_ = 12) {a1_ : Int32}  {σ u : zSt} {r : Int32} (hf : fX9_dOf ln N M q_ a1_ σ = some (r, u)) : zMi l yX9_dOf cX9_dOf 2 (some .int) (0) D cy shC ad ts ln [.ref (ad q_), .int a1_] σ r u := by
  refine zM_of (by decide) (Nat.le_of_ble_eq_true rfl) (fun p e s m args below meth c ls ha X J hl => ?_)
  have hx := X.1
  have hb := X.2.1
  have hl : lv_has ls 2 [(0, .ref (ad q_)), (1, .int a1_)] := hl
  generalize s.heap = H at J ⊢
  generalize ([] : List Loc) = locs at J ⊢
  show W p l e (zRm (0)) s m args below meth c H locs 0 0 (zQi D cy shC ad ts ln below args s (r, u)) (F0 m 0 ls [])
  unfold fX9_dOf at hf
  refine lv_iload_n hx hb dX9_dOf_0 rfl (lv_at hl 1 rfl) ?_
  refine lv_if_lt hx hb dX9_dOf_1 rfl (fun h => ?_) (fun h => ?_)
  · have hf := itp h hf
    refine lv_iconst (v := (-1 : Int32)) hx hb dX9_dOf_21 (by decide) ?_
    exact zr_iret X J hf dX9_dOf_22
  · have hf := itn h hf
    refine lv_iload_n hx hb dX9_dOf_4 rfl (lv_at hl 1 rfl) ?_
    refine lv_aload_n hx hb dX9_dOf_5 rfl (lv_at hl 0 rfl) ?_
    refine gf_X9_28 hq_ X J dX9_dOf_6 ?_
    refine lv_icmp_ge hx hb dX9_dOf_9 rfl (fun h => ?_) (fun h => ?_)
    · have hf := itp h hf
      refine lv_iconst (v := (-1 : Int32)) hx hb dX9_dOf_21 (by decide) ?_
      exact zr_iret X J hf dX9_dOf_22
    · have hf := itn h hf
      refine lv_aload_n hx hb dX9_dOf_12 rfl (lv_at hl 0 rfl) ?_
      refine gf_X9_22 hq_ X J dX9_dOf_13 ?_
      refine lv_iload_n hx hb dX9_dOf_16 rfl (lv_at hl 1 rfl) ?_
      obtain ⟨hin, hf⟩ := itx hf
      refine al_X9_X9f4 hq_ X J hin dX9_dOf_17 ?_
      refine lv_goto hx hb dX9_dOf_18 rfl ?_
      exact zr_iret X J hf dX9_dOf_22
set_option maxHeartbeats 4000000 in
theorem tX10_takeApart {a1_ : Int32}  {σ u : zSt} {r : Unit} (hf : fX10_takeApart ln N M a1_ σ = some (r, u)) : zMv l yX10_takeApart cX10_takeApart 2 none (3) D cy shC ad ts ln [.ref (ad 8), .int a1_] σ u := by
  refine zM_of (by decide) (Nat.le_of_ble_eq_true rfl) (fun p e s m args below meth c ls ha X J hl => ?_)
  have hx := X.1
  have hb := X.2.1
  have hl : lv_has ls 2 [(0, .ref (ad 8)), (1, .int a1_)] := hl
  generalize s.heap = H at J ⊢
  generalize ([] : List Loc) = locs at J ⊢
  show W p l e (zRm (3)) s m args below meth c H locs 0 0 (zQv D cy shC ad ts ln below args s (r, u)) (F0 m 0 ls [])
  unfold fX10_takeApart at hf
  refine lv_aload_n hx hb dX10_takeApart_0 rfl (lv_at hl 0 rfl) ?_
  obtain ⟨q1, hq1, er, hf⟩ := rbd_some hf
  refine gf_X10_44 X J er dX10_takeApart_1 ?_
  refine lv_iload_n hx hb dX10_takeApart_4 rfl (lv_at hl 1 rfl) ?_
  obtain ⟨r2, σ3, hc, hf⟩ := obd_some hf
  refine zr_callNi (As := [.int a1_]) (rest := []) X J q1 (ho_C_X9 hq1).1 (ho_C_X9 hq1).2.1 (ho_C_X9 hq1).2.2 yy_X9_kindOf mw_methodLinkNest_TinyCWalker_120_TinyCTree_kindOf_II_TinyC (d := 0) (zR_ok (by omega) (by decide)) hl.1 rfl (Nat.le_of_ble_eq_true rfl) (tX9_kindOf hq1 hc) dX10_takeApart_5 (fun H locs J => ?_)
  by_cases h0_ : r2 = (1 : Int32)
  · have hf := itp h0_ hf
    rw [h0_]
    refine lv_tableIn hx hb dX10_takeApart_8 (by decide) (by decide) (tgt := 96) (by rfl) (by decide) ?_
    refine lv_aload_n hx hb dX10_takeApart_96 rfl (lv_at hl 0 rfl) ?_
    refine lv_aload_n hx hb dX10_takeApart_97 rfl (lv_at hl 0 rfl) ?_
    obtain ⟨q4, hq4, er, hf⟩ := rbd_some hf
    refine gf_X10_44 X J er dX10_takeApart_98 ?_
    refine lv_iload_n hx hb dX10_takeApart_101 rfl (lv_at hl 1 rfl) ?_
    obtain ⟨r5, σ6, hc, hf⟩ := obd_some hf
    refine zr_callNi (As := [.int a1_]) (rest := [.ref (ad 8)]) X J q4 (ho_C_X9 hq4).1 (ho_C_X9 hq4).2.1 (ho_C_X9 hq4).2.2 yy_X9_aOf mw_methodLinkNest_TinyCWalker_126_TinyCTree_aOf_II_TinyC (d := 0) (zR_ok (by omega) (by decide)) hl.1 rfl (Nat.le_of_ble_eq_true rfl) (tX9_aOf hq4 hc) dX10_takeApart_102 (fun H locs J => ?_)
    obtain ⟨r7, σ8, hc, hf⟩ := obd_some hf
    refine zr_callv (As := [.int r5]) (rest := []) X J 8 ho_C_X10.1 ho_C_X10.2.1 ho_C_X10.2.2 yy_X10_pushValue mw_methodLink_TinyCWalker_105_TinyCWalker_pushValue_IV (d := 0) (zR_ok (by omega) (by decide)) hl.1 rfl (Nat.le_of_ble_eq_true rfl) (tX10_pushValue  hc) dX10_takeApart_105 (fun H locs J => ?_)
    refine lv_goto hx hb dX10_takeApart_108 rfl ?_
    exact zr_vret X J hf dX10_takeApart_268
  have hf := itn h0_ hf
  by_cases h1_ : r2 = (2 : Int32)
  · have hf := itp h1_ hf
    rw [h1_]
    refine lv_tableIn hx hb dX10_takeApart_8 (by decide) (by decide) (tgt := 111) (by rfl) (by decide) ?_
    refine lv_aload_n hx hb dX10_takeApart_111 rfl (lv_at hl 0 rfl) ?_
    refine lv_aload_n hx hb dX10_takeApart_112 rfl (lv_at hl 0 rfl) ?_
    refine lv_aload_n hx hb dX10_takeApart_113 rfl (lv_at hl 0 rfl) ?_
    obtain ⟨q9, hq9, er, hf⟩ := rbd_some hf
    refine gf_X10_44 X J er dX10_takeApart_114 ?_
    refine lv_iload_n hx hb dX10_takeApart_117 rfl (lv_at hl 1 rfl) ?_
    obtain ⟨r10, σ11, hc, hf⟩ := obd_some hf
    refine zr_callNi (As := [.int a1_]) (rest := [.ref (ad 8), .ref (ad 8)]) X J q9 (ho_C_X9 hq9).1 (ho_C_X9 hq9).2.1 (ho_C_X9 hq9).2.2 yy_X9_aOf mw_methodLinkNest_TinyCWalker_126_TinyCTree_aOf_II_TinyC (d := 0) (zR_ok (by omega) (by decide)) hl.1 rfl (Nat.le_of_ble_eq_true rfl) (tX9_aOf hq9 hc) dX10_takeApart_118 (fun H locs J => ?_)
    obtain ⟨r12, σ13, hc, hf⟩ := obd_some hf
    refine zr_calli (As := [.int r10]) (rest := [.ref (ad 8)]) X J 8 ho_C_X10.1 ho_C_X10.2.1 ho_C_X10.2.2 yy_X10_globalAt mw_methodLink_TinyCWalker_129_TinyCWalker_globalAt_II (d := 0) (zR_ok (by omega) (by decide)) hl.1 rfl (Nat.le_of_ble_eq_true rfl) (tX10_globalAt  hc) dX10_takeApart_121 (fun H locs J => ?_)
    obtain ⟨r14, σ15, hc, hf⟩ := obd_some hf
    refine zr_callv (As := [.int r12]) (rest := []) X J 8 ho_C_X10.1 ho_C_X10.2.1 ho_C_X10.2.2 yy_X10_pushValue mw_methodLink_TinyCWalker_105_TinyCWalker_pushValue_IV (d := 0) (zR_ok (by omega) (by decide)) hl.1 rfl (Nat.le_of_ble_eq_true rfl) (tX10_pushValue  hc) dX10_takeApart_124 (fun H locs J => ?_)
    refine lv_goto hx hb dX10_takeApart_127 rfl ?_
    exact zr_vret X J hf dX10_takeApart_268
  have hf := itn h1_ hf
  by_cases h2_ : r2 = (3 : Int32)
  · have hf := itp h2_ hf
    rw [h2_]
    refine lv_tableIn hx hb dX10_takeApart_8 (by decide) (by decide) (tgt := 130) (by rfl) (by decide) ?_
    refine lv_aload_n hx hb dX10_takeApart_130 rfl (lv_at hl 0 rfl) ?_
    refine lv_aload_n hx hb dX10_takeApart_131 rfl (lv_at hl 0 rfl) ?_
    refine lv_aload_n hx hb dX10_takeApart_132 rfl (lv_at hl 0 rfl) ?_
    obtain ⟨q16, hq16, er, hf⟩ := rbd_some hf
    refine gf_X10_44 X J er dX10_takeApart_133 ?_
    refine lv_iload_n hx hb dX10_takeApart_136 rfl (lv_at hl 1 rfl) ?_
    obtain ⟨r17, σ18, hc, hf⟩ := obd_some hf
    refine zr_callNi (As := [.int a1_]) (rest := [.ref (ad 8), .ref (ad 8)]) X J q16 (ho_C_X9 hq16).1 (ho_C_X9 hq16).2.1 (ho_C_X9 hq16).2.2 yy_X9_aOf mw_methodLinkNest_TinyCWalker_126_TinyCTree_aOf_II_TinyC (d := 0) (zR_ok (by omega) (by decide)) hl.1 rfl (Nat.le_of_ble_eq_true rfl) (tX9_aOf hq16 hc) dX10_takeApart_137 (fun H locs J => ?_)
    obtain ⟨r19, σ20, hc, hf⟩ := obd_some hf
    refine zr_calli (As := [.int r17]) (rest := [.ref (ad 8)]) X J 8 ho_C_X10.1 ho_C_X10.2.1 ho_C_X10.2.2 yy_X10_localAt mw_methodLink_TinyCWalker_132_TinyCWalker_localAt_II (d := 1) (zR_ok (by omega) (by decide)) hl.1 rfl (Nat.le_of_ble_eq_true rfl) (tX10_localAt  hc) dX10_takeApart_140 (fun H locs J => ?_)
    obtain ⟨r21, σ22, hc, hf⟩ := obd_some hf
    refine zr_callv (As := [.int r19]) (rest := []) X J 8 ho_C_X10.1 ho_C_X10.2.1 ho_C_X10.2.2 yy_X10_pushValue mw_methodLink_TinyCWalker_105_TinyCWalker_pushValue_IV (d := 0) (zR_ok (by omega) (by decide)) hl.1 rfl (Nat.le_of_ble_eq_true rfl) (tX10_pushValue  hc) dX10_takeApart_143 (fun H locs J => ?_)
    refine lv_goto hx hb dX10_takeApart_146 rfl ?_
    exact zr_vret X J hf dX10_takeApart_268
  have hf := itn h2_ hf
  by_cases h3_ : r2 = (4 : Int32)
  · have hf := itp h3_ hf
    rw [h3_]
    refine lv_tableIn hx hb dX10_takeApart_8 (by decide) (by decide) (tgt := 249) (by rfl) (by decide) ?_
    refine lv_aload_n hx hb dX10_takeApart_249 rfl (lv_at hl 0 rfl) ?_
    refine lv_iconst (v := (1 : Int32)) hx hb dX10_takeApart_250 (by decide) ?_
    refine lv_iload_n hx hb dX10_takeApart_251 rfl (lv_at hl 1 rfl) ?_
    obtain ⟨r23, σ24, hc, hf⟩ := obd_some hf
    refine zr_callv (As := [.int (1 : Int32), .int a1_]) (rest := []) X J 8 ho_C_X10.1 ho_C_X10.2.1 ho_C_X10.2.2 yy_X10_pushItem mw_methodLink_TinyCWalker_78_TinyCWalker_pushItem_IIV (d := 0) (zR_ok (by omega) (by decide)) hl.1 rfl (Nat.le_of_ble_eq_true rfl) (tX10_pushItem  hc) dX10_takeApart_252 (fun H locs J => ?_)
    refine lv_aload_n hx hb dX10_takeApart_255 rfl (lv_at hl 0 rfl) ?_
    refine lv_iconst (v := (0 : Int32)) hx hb dX10_takeApart_256 (by decide) ?_
    refine lv_aload_n hx hb dX10_takeApart_257 rfl (lv_at hl 0 rfl) ?_
    obtain ⟨q25, hq25, er, hf⟩ := rbd_some hf
    refine gf_X10_44 X J er dX10_takeApart_258 ?_
    refine lv_iload_n hx hb dX10_takeApart_261 rfl (lv_at hl 1 rfl) ?_
    obtain ⟨r26, σ27, hc, hf⟩ := obd_some hf
    refine zr_callNi (As := [.int a1_]) (rest := [.int (0 : Int32), .ref (ad 8)]) X J q25 (ho_C_X9 hq25).1 (ho_C_X9 hq25).2.1 (ho_C_X9 hq25).2.2 yy_X9_bOf mw_methodLinkNest_TinyCWalker_150_TinyCTree_bOf_II_TinyC (d := 0) (zR_ok (by omega) (by decide)) hl.1 rfl (Nat.le_of_ble_eq_true rfl) (tX9_bOf hq25 hc) dX10_takeApart_262 (fun H locs J => ?_)
    obtain ⟨r28, σ29, hc, hf⟩ := obd_some hf
    refine zr_callv (As := [.int (0 : Int32), .int r26]) (rest := []) X J 8 ho_C_X10.1 ho_C_X10.2.1 ho_C_X10.2.2 yy_X10_pushItem mw_methodLink_TinyCWalker_78_TinyCWalker_pushItem_IIV (d := 0) (zR_ok (by omega) (by decide)) hl.1 rfl (Nat.le_of_ble_eq_true rfl) (tX10_pushItem  hc) dX10_takeApart_265 (fun H locs J => ?_)
    exact zr_vret X J hf dX10_takeApart_268
  have hf := itn h3_ hf
  by_cases h4_ : r2 = (5 : Int32)
  · have hf := itp h4_ hf
    rw [h4_]
    refine lv_tableIn hx hb dX10_takeApart_8 (by decide) (by decide) (tgt := 149) (by rfl) (by decide) ?_
    refine lv_aload_n hx hb dX10_takeApart_149 rfl (lv_at hl 0 rfl) ?_
    obtain ⟨r30, σ31, hc, hf⟩ := obd_some hf
    refine zr_callv (As := []) (rest := []) X J 8 ho_C_X10.1 ho_C_X10.2.1 ho_C_X10.2.2 yy_X10_takeInput mw_methodLink_TinyCWalker_135_TinyCWalker_takeInput_V (d := 1) (zR_ok (by omega) (by decide)) hl.1 rfl (Nat.le_of_ble_eq_true rfl) (tX10_takeInput  hc) dX10_takeApart_150 (fun H locs J => ?_)
    refine lv_goto hx hb dX10_takeApart_153 rfl ?_
    exact zr_vret X J hf dX10_takeApart_268
  have hf := itn h4_ hf
  by_cases h5_ : r2 = (6 : Int32)
  · have hf := itp h5_ hf
    rw [h5_]
    refine lv_tableIn hx hb dX10_takeApart_8 (by decide) (by decide) (tgt := 249) (by rfl) (by decide) ?_
    refine lv_aload_n hx hb dX10_takeApart_249 rfl (lv_at hl 0 rfl) ?_
    refine lv_iconst (v := (1 : Int32)) hx hb dX10_takeApart_250 (by decide) ?_
    refine lv_iload_n hx hb dX10_takeApart_251 rfl (lv_at hl 1 rfl) ?_
    obtain ⟨r32, σ33, hc, hf⟩ := obd_some hf
    refine zr_callv (As := [.int (1 : Int32), .int a1_]) (rest := []) X J 8 ho_C_X10.1 ho_C_X10.2.1 ho_C_X10.2.2 yy_X10_pushItem mw_methodLink_TinyCWalker_78_TinyCWalker_pushItem_IIV (d := 0) (zR_ok (by omega) (by decide)) hl.1 rfl (Nat.le_of_ble_eq_true rfl) (tX10_pushItem  hc) dX10_takeApart_252 (fun H locs J => ?_)
    refine lv_aload_n hx hb dX10_takeApart_255 rfl (lv_at hl 0 rfl) ?_
    refine lv_iconst (v := (0 : Int32)) hx hb dX10_takeApart_256 (by decide) ?_
    refine lv_aload_n hx hb dX10_takeApart_257 rfl (lv_at hl 0 rfl) ?_
    obtain ⟨q34, hq34, er, hf⟩ := rbd_some hf
    refine gf_X10_44 X J er dX10_takeApart_258 ?_
    refine lv_iload_n hx hb dX10_takeApart_261 rfl (lv_at hl 1 rfl) ?_
    obtain ⟨r35, σ36, hc, hf⟩ := obd_some hf
    refine zr_callNi (As := [.int a1_]) (rest := [.int (0 : Int32), .ref (ad 8)]) X J q34 (ho_C_X9 hq34).1 (ho_C_X9 hq34).2.1 (ho_C_X9 hq34).2.2 yy_X9_bOf mw_methodLinkNest_TinyCWalker_150_TinyCTree_bOf_II_TinyC (d := 0) (zR_ok (by omega) (by decide)) hl.1 rfl (Nat.le_of_ble_eq_true rfl) (tX9_bOf hq34 hc) dX10_takeApart_262 (fun H locs J => ?_)
    obtain ⟨r37, σ38, hc, hf⟩ := obd_some hf
    refine zr_callv (As := [.int (0 : Int32), .int r35]) (rest := []) X J 8 ho_C_X10.1 ho_C_X10.2.1 ho_C_X10.2.2 yy_X10_pushItem mw_methodLink_TinyCWalker_78_TinyCWalker_pushItem_IIV (d := 0) (zR_ok (by omega) (by decide)) hl.1 rfl (Nat.le_of_ble_eq_true rfl) (tX10_pushItem  hc) dX10_takeApart_265 (fun H locs J => ?_)
    exact zr_vret X J hf dX10_takeApart_268
  have hf := itn h5_ hf
  by_cases h6_ : r2 = (7 : Int32)
  · have hf := itp h6_ hf
    rw [h6_]
    refine lv_tableIn hx hb dX10_takeApart_8 (by decide) (by decide) (tgt := 156) (by rfl) (by decide) ?_
    refine lv_aload_n hx hb dX10_takeApart_156 rfl (lv_at hl 0 rfl) ?_
    refine lv_iload_n hx hb dX10_takeApart_157 rfl (lv_at hl 1 rfl) ?_
    obtain ⟨r39, σ40, hc, hf⟩ := obd_some hf
    refine zr_callv (As := [.int a1_]) (rest := []) X J 8 ho_C_X10.1 ho_C_X10.2.1 ho_C_X10.2.2 yy_X10_takeTwoApart mw_methodLink_TinyCWalker_138_TinyCWalker_takeTwoApart_IV (d := 1) (zR_ok (by omega) (by decide)) hl.1 rfl (Nat.le_of_ble_eq_true rfl) (tX10_takeTwoApart  hc) dX10_takeApart_158 (fun H locs J => ?_)
    refine lv_goto hx hb dX10_takeApart_161 rfl ?_
    exact zr_vret X J hf dX10_takeApart_268
  have hf := itn h6_ hf
  by_cases h7_ : r2 = (8 : Int32)
  · have hf := itp h7_ hf
    rw [h7_]
    refine lv_tableIn hx hb dX10_takeApart_8 (by decide) (by decide) (tgt := 164) (by rfl) (by decide) ?_
    refine lv_aload_n hx hb dX10_takeApart_164 rfl (lv_at hl 0 rfl) ?_
    refine lv_iload_n hx hb dX10_takeApart_165 rfl (lv_at hl 1 rfl) ?_
    obtain ⟨r41, σ42, hc, hf⟩ := obd_some hf
    refine zr_callv (As := [.int a1_]) (rest := []) X J 8 ho_C_X10.1 ho_C_X10.2.1 ho_C_X10.2.2 yy_X10_takeCallApart mw_methodLink_TinyCWalker_141_TinyCWalker_takeCallApart_IV (d := 1) (zR_ok (by omega) (by decide)) hl.1 rfl (Nat.le_of_ble_eq_true rfl) (tX10_takeCallApart  hc) dX10_takeApart_166 (fun H locs J => ?_)
    refine lv_goto hx hb dX10_takeApart_169 rfl ?_
    exact zr_vret X J hf dX10_takeApart_268
  have hf := itn h7_ hf
  by_cases h8_ : r2 = (9 : Int32)
  · have hf := itp h8_ hf
    rw [h8_]
    refine lv_tableIn hx hb dX10_takeApart_8 (by decide) (by decide) (tgt := 172) (by rfl) (by decide) ?_
    refine lv_aload_n hx hb dX10_takeApart_172 rfl (lv_at hl 0 rfl) ?_
    refine lv_iload_n hx hb dX10_takeApart_173 rfl (lv_at hl 1 rfl) ?_
    obtain ⟨r43, σ44, hc, hf⟩ := obd_some hf
    refine zr_callv (As := [.int a1_]) (rest := []) X J 8 ho_C_X10.1 ho_C_X10.2.1 ho_C_X10.2.2 yy_X10_openRow mw_methodLink_TinyCWalker_111_TinyCWalker_openRow_IV (d := 1) (zR_ok (by omega) (by decide)) hl.1 rfl (Nat.le_of_ble_eq_true rfl) (tX10_openRow  hc) dX10_takeApart_174 (fun H locs J => ?_)
    refine lv_goto hx hb dX10_takeApart_177 rfl ?_
    exact zr_vret X J hf dX10_takeApart_268
  have hf := itn h8_ hf
  by_cases h9_ : r2 = (10 : Int32)
  · have hf := itp h9_ hf
    rw [h9_]
    refine lv_tableIn hx hb dX10_takeApart_8 (by decide) (by decide) (tgt := 249) (by rfl) (by decide) ?_
    refine lv_aload_n hx hb dX10_takeApart_249 rfl (lv_at hl 0 rfl) ?_
    refine lv_iconst (v := (1 : Int32)) hx hb dX10_takeApart_250 (by decide) ?_
    refine lv_iload_n hx hb dX10_takeApart_251 rfl (lv_at hl 1 rfl) ?_
    obtain ⟨r45, σ46, hc, hf⟩ := obd_some hf
    refine zr_callv (As := [.int (1 : Int32), .int a1_]) (rest := []) X J 8 ho_C_X10.1 ho_C_X10.2.1 ho_C_X10.2.2 yy_X10_pushItem mw_methodLink_TinyCWalker_78_TinyCWalker_pushItem_IIV (d := 0) (zR_ok (by omega) (by decide)) hl.1 rfl (Nat.le_of_ble_eq_true rfl) (tX10_pushItem  hc) dX10_takeApart_252 (fun H locs J => ?_)
    refine lv_aload_n hx hb dX10_takeApart_255 rfl (lv_at hl 0 rfl) ?_
    refine lv_iconst (v := (0 : Int32)) hx hb dX10_takeApart_256 (by decide) ?_
    refine lv_aload_n hx hb dX10_takeApart_257 rfl (lv_at hl 0 rfl) ?_
    obtain ⟨q47, hq47, er, hf⟩ := rbd_some hf
    refine gf_X10_44 X J er dX10_takeApart_258 ?_
    refine lv_iload_n hx hb dX10_takeApart_261 rfl (lv_at hl 1 rfl) ?_
    obtain ⟨r48, σ49, hc, hf⟩ := obd_some hf
    refine zr_callNi (As := [.int a1_]) (rest := [.int (0 : Int32), .ref (ad 8)]) X J q47 (ho_C_X9 hq47).1 (ho_C_X9 hq47).2.1 (ho_C_X9 hq47).2.2 yy_X9_bOf mw_methodLinkNest_TinyCWalker_150_TinyCTree_bOf_II_TinyC (d := 0) (zR_ok (by omega) (by decide)) hl.1 rfl (Nat.le_of_ble_eq_true rfl) (tX9_bOf hq47 hc) dX10_takeApart_262 (fun H locs J => ?_)
    obtain ⟨r50, σ51, hc, hf⟩ := obd_some hf
    refine zr_callv (As := [.int (0 : Int32), .int r48]) (rest := []) X J 8 ho_C_X10.1 ho_C_X10.2.1 ho_C_X10.2.2 yy_X10_pushItem mw_methodLink_TinyCWalker_78_TinyCWalker_pushItem_IIV (d := 0) (zR_ok (by omega) (by decide)) hl.1 rfl (Nat.le_of_ble_eq_true rfl) (tX10_pushItem  hc) dX10_takeApart_265 (fun H locs J => ?_)
    exact zr_vret X J hf dX10_takeApart_268
  have hf := itn h9_ hf
  by_cases h10_ : r2 = (11 : Int32)
  · have hf := itp h10_ hf
    rw [h10_]
    refine lv_tableIn hx hb dX10_takeApart_8 (by decide) (by decide) (tgt := 249) (by rfl) (by decide) ?_
    refine lv_aload_n hx hb dX10_takeApart_249 rfl (lv_at hl 0 rfl) ?_
    refine lv_iconst (v := (1 : Int32)) hx hb dX10_takeApart_250 (by decide) ?_
    refine lv_iload_n hx hb dX10_takeApart_251 rfl (lv_at hl 1 rfl) ?_
    obtain ⟨r52, σ53, hc, hf⟩ := obd_some hf
    refine zr_callv (As := [.int (1 : Int32), .int a1_]) (rest := []) X J 8 ho_C_X10.1 ho_C_X10.2.1 ho_C_X10.2.2 yy_X10_pushItem mw_methodLink_TinyCWalker_78_TinyCWalker_pushItem_IIV (d := 0) (zR_ok (by omega) (by decide)) hl.1 rfl (Nat.le_of_ble_eq_true rfl) (tX10_pushItem  hc) dX10_takeApart_252 (fun H locs J => ?_)
    refine lv_aload_n hx hb dX10_takeApart_255 rfl (lv_at hl 0 rfl) ?_
    refine lv_iconst (v := (0 : Int32)) hx hb dX10_takeApart_256 (by decide) ?_
    refine lv_aload_n hx hb dX10_takeApart_257 rfl (lv_at hl 0 rfl) ?_
    obtain ⟨q54, hq54, er, hf⟩ := rbd_some hf
    refine gf_X10_44 X J er dX10_takeApart_258 ?_
    refine lv_iload_n hx hb dX10_takeApart_261 rfl (lv_at hl 1 rfl) ?_
    obtain ⟨r55, σ56, hc, hf⟩ := obd_some hf
    refine zr_callNi (As := [.int a1_]) (rest := [.int (0 : Int32), .ref (ad 8)]) X J q54 (ho_C_X9 hq54).1 (ho_C_X9 hq54).2.1 (ho_C_X9 hq54).2.2 yy_X9_bOf mw_methodLinkNest_TinyCWalker_150_TinyCTree_bOf_II_TinyC (d := 0) (zR_ok (by omega) (by decide)) hl.1 rfl (Nat.le_of_ble_eq_true rfl) (tX9_bOf hq54 hc) dX10_takeApart_262 (fun H locs J => ?_)
    obtain ⟨r57, σ58, hc, hf⟩ := obd_some hf
    refine zr_callv (As := [.int (0 : Int32), .int r55]) (rest := []) X J 8 ho_C_X10.1 ho_C_X10.2.1 ho_C_X10.2.2 yy_X10_pushItem mw_methodLink_TinyCWalker_78_TinyCWalker_pushItem_IIV (d := 0) (zR_ok (by omega) (by decide)) hl.1 rfl (Nat.le_of_ble_eq_true rfl) (tX10_pushItem  hc) dX10_takeApart_265 (fun H locs J => ?_)
    exact zr_vret X J hf dX10_takeApart_268
  have hf := itn h10_ hf
  by_cases h11_ : r2 = (12 : Int32)
  · have hf := itp h11_ hf
    rw [h11_]
    refine lv_tableIn hx hb dX10_takeApart_8 (by decide) (by decide) (tgt := 249) (by rfl) (by decide) ?_
    refine lv_aload_n hx hb dX10_takeApart_249 rfl (lv_at hl 0 rfl) ?_
    refine lv_iconst (v := (1 : Int32)) hx hb dX10_takeApart_250 (by decide) ?_
    refine lv_iload_n hx hb dX10_takeApart_251 rfl (lv_at hl 1 rfl) ?_
    obtain ⟨r59, σ60, hc, hf⟩ := obd_some hf
    refine zr_callv (As := [.int (1 : Int32), .int a1_]) (rest := []) X J 8 ho_C_X10.1 ho_C_X10.2.1 ho_C_X10.2.2 yy_X10_pushItem mw_methodLink_TinyCWalker_78_TinyCWalker_pushItem_IIV (d := 0) (zR_ok (by omega) (by decide)) hl.1 rfl (Nat.le_of_ble_eq_true rfl) (tX10_pushItem  hc) dX10_takeApart_252 (fun H locs J => ?_)
    refine lv_aload_n hx hb dX10_takeApart_255 rfl (lv_at hl 0 rfl) ?_
    refine lv_iconst (v := (0 : Int32)) hx hb dX10_takeApart_256 (by decide) ?_
    refine lv_aload_n hx hb dX10_takeApart_257 rfl (lv_at hl 0 rfl) ?_
    obtain ⟨q61, hq61, er, hf⟩ := rbd_some hf
    refine gf_X10_44 X J er dX10_takeApart_258 ?_
    refine lv_iload_n hx hb dX10_takeApart_261 rfl (lv_at hl 1 rfl) ?_
    obtain ⟨r62, σ63, hc, hf⟩ := obd_some hf
    refine zr_callNi (As := [.int a1_]) (rest := [.int (0 : Int32), .ref (ad 8)]) X J q61 (ho_C_X9 hq61).1 (ho_C_X9 hq61).2.1 (ho_C_X9 hq61).2.2 yy_X9_bOf mw_methodLinkNest_TinyCWalker_150_TinyCTree_bOf_II_TinyC (d := 0) (zR_ok (by omega) (by decide)) hl.1 rfl (Nat.le_of_ble_eq_true rfl) (tX9_bOf hq61 hc) dX10_takeApart_262 (fun H locs J => ?_)
    obtain ⟨r64, σ65, hc, hf⟩ := obd_some hf
    refine zr_callv (As := [.int (0 : Int32), .int r62]) (rest := []) X J 8 ho_C_X10.1 ho_C_X10.2.1 ho_C_X10.2.2 yy_X10_pushItem mw_methodLink_TinyCWalker_78_TinyCWalker_pushItem_IIV (d := 0) (zR_ok (by omega) (by decide)) hl.1 rfl (Nat.le_of_ble_eq_true rfl) (tX10_pushItem  hc) dX10_takeApart_265 (fun H locs J => ?_)
    exact zr_vret X J hf dX10_takeApart_268
  have hf := itn h11_ hf
  by_cases h12_ : r2 = (13 : Int32)
  · have hf := itp h12_ hf
    rw [h12_]
    refine lv_tableIn hx hb dX10_takeApart_8 (by decide) (by decide) (tgt := 249) (by rfl) (by decide) ?_
    refine lv_aload_n hx hb dX10_takeApart_249 rfl (lv_at hl 0 rfl) ?_
    refine lv_iconst (v := (1 : Int32)) hx hb dX10_takeApart_250 (by decide) ?_
    refine lv_iload_n hx hb dX10_takeApart_251 rfl (lv_at hl 1 rfl) ?_
    obtain ⟨r66, σ67, hc, hf⟩ := obd_some hf
    refine zr_callv (As := [.int (1 : Int32), .int a1_]) (rest := []) X J 8 ho_C_X10.1 ho_C_X10.2.1 ho_C_X10.2.2 yy_X10_pushItem mw_methodLink_TinyCWalker_78_TinyCWalker_pushItem_IIV (d := 0) (zR_ok (by omega) (by decide)) hl.1 rfl (Nat.le_of_ble_eq_true rfl) (tX10_pushItem  hc) dX10_takeApart_252 (fun H locs J => ?_)
    refine lv_aload_n hx hb dX10_takeApart_255 rfl (lv_at hl 0 rfl) ?_
    refine lv_iconst (v := (0 : Int32)) hx hb dX10_takeApart_256 (by decide) ?_
    refine lv_aload_n hx hb dX10_takeApart_257 rfl (lv_at hl 0 rfl) ?_
    obtain ⟨q68, hq68, er, hf⟩ := rbd_some hf
    refine gf_X10_44 X J er dX10_takeApart_258 ?_
    refine lv_iload_n hx hb dX10_takeApart_261 rfl (lv_at hl 1 rfl) ?_
    obtain ⟨r69, σ70, hc, hf⟩ := obd_some hf
    refine zr_callNi (As := [.int a1_]) (rest := [.int (0 : Int32), .ref (ad 8)]) X J q68 (ho_C_X9 hq68).1 (ho_C_X9 hq68).2.1 (ho_C_X9 hq68).2.2 yy_X9_bOf mw_methodLinkNest_TinyCWalker_150_TinyCTree_bOf_II_TinyC (d := 0) (zR_ok (by omega) (by decide)) hl.1 rfl (Nat.le_of_ble_eq_true rfl) (tX9_bOf hq68 hc) dX10_takeApart_262 (fun H locs J => ?_)
    obtain ⟨r71, σ72, hc, hf⟩ := obd_some hf
    refine zr_callv (As := [.int (0 : Int32), .int r69]) (rest := []) X J 8 ho_C_X10.1 ho_C_X10.2.1 ho_C_X10.2.2 yy_X10_pushItem mw_methodLink_TinyCWalker_78_TinyCWalker_pushItem_IIV (d := 0) (zR_ok (by omega) (by decide)) hl.1 rfl (Nat.le_of_ble_eq_true rfl) (tX10_pushItem  hc) dX10_takeApart_265 (fun H locs J => ?_)
    exact zr_vret X J hf dX10_takeApart_268
  have hf := itn h12_ hf
  by_cases h13_ : r2 = (14 : Int32)
  · have hf := itp h13_ hf
    rw [h13_]
    refine lv_tableIn hx hb dX10_takeApart_8 (by decide) (by decide) (tgt := 249) (by rfl) (by decide) ?_
    refine lv_aload_n hx hb dX10_takeApart_249 rfl (lv_at hl 0 rfl) ?_
    refine lv_iconst (v := (1 : Int32)) hx hb dX10_takeApart_250 (by decide) ?_
    refine lv_iload_n hx hb dX10_takeApart_251 rfl (lv_at hl 1 rfl) ?_
    obtain ⟨r73, σ74, hc, hf⟩ := obd_some hf
    refine zr_callv (As := [.int (1 : Int32), .int a1_]) (rest := []) X J 8 ho_C_X10.1 ho_C_X10.2.1 ho_C_X10.2.2 yy_X10_pushItem mw_methodLink_TinyCWalker_78_TinyCWalker_pushItem_IIV (d := 0) (zR_ok (by omega) (by decide)) hl.1 rfl (Nat.le_of_ble_eq_true rfl) (tX10_pushItem  hc) dX10_takeApart_252 (fun H locs J => ?_)
    refine lv_aload_n hx hb dX10_takeApart_255 rfl (lv_at hl 0 rfl) ?_
    refine lv_iconst (v := (0 : Int32)) hx hb dX10_takeApart_256 (by decide) ?_
    refine lv_aload_n hx hb dX10_takeApart_257 rfl (lv_at hl 0 rfl) ?_
    obtain ⟨q75, hq75, er, hf⟩ := rbd_some hf
    refine gf_X10_44 X J er dX10_takeApart_258 ?_
    refine lv_iload_n hx hb dX10_takeApart_261 rfl (lv_at hl 1 rfl) ?_
    obtain ⟨r76, σ77, hc, hf⟩ := obd_some hf
    refine zr_callNi (As := [.int a1_]) (rest := [.int (0 : Int32), .ref (ad 8)]) X J q75 (ho_C_X9 hq75).1 (ho_C_X9 hq75).2.1 (ho_C_X9 hq75).2.2 yy_X9_bOf mw_methodLinkNest_TinyCWalker_150_TinyCTree_bOf_II_TinyC (d := 0) (zR_ok (by omega) (by decide)) hl.1 rfl (Nat.le_of_ble_eq_true rfl) (tX9_bOf hq75 hc) dX10_takeApart_262 (fun H locs J => ?_)
    obtain ⟨r78, σ79, hc, hf⟩ := obd_some hf
    refine zr_callv (As := [.int (0 : Int32), .int r76]) (rest := []) X J 8 ho_C_X10.1 ho_C_X10.2.1 ho_C_X10.2.2 yy_X10_pushItem mw_methodLink_TinyCWalker_78_TinyCWalker_pushItem_IIV (d := 0) (zR_ok (by omega) (by decide)) hl.1 rfl (Nat.le_of_ble_eq_true rfl) (tX10_pushItem  hc) dX10_takeApart_265 (fun H locs J => ?_)
    exact zr_vret X J hf dX10_takeApart_268
  have hf := itn h13_ hf
  by_cases h14_ : r2 = (15 : Int32)
  · have hf := itp h14_ hf
    rw [h14_]
    refine lv_tableIn hx hb dX10_takeApart_8 (by decide) (by decide) (tgt := 180) (by rfl) (by decide) ?_
    refine lv_aload_n hx hb dX10_takeApart_180 rfl (lv_at hl 0 rfl) ?_
    refine lv_iload_n hx hb dX10_takeApart_181 rfl (lv_at hl 1 rfl) ?_
    obtain ⟨r80, σ81, hc, hf⟩ := obd_some hf
    refine zr_callv (As := [.int a1_]) (rest := []) X J 8 ho_C_X10.1 ho_C_X10.2.1 ho_C_X10.2.2 yy_X10_takeLocalApart mw_methodLink_TinyCWalker_144_TinyCWalker_takeLocalApart_IV (d := 2) (zR_ok (by omega) (by decide)) hl.1 rfl (Nat.le_of_ble_eq_true rfl) (tX10_takeLocalApart  hc) dX10_takeApart_182 (fun H locs J => ?_)
    refine lv_goto hx hb dX10_takeApart_185 rfl ?_
    exact zr_vret X J hf dX10_takeApart_268
  have hf := itn h14_ hf
  by_cases h15_ : r2 = (16 : Int32)
  · have hf := itp h15_ hf
    rw [h15_]
    refine lv_tableIn hx hb dX10_takeApart_8 (by decide) (by decide) (tgt := 188) (by rfl) (by decide) ?_
    refine lv_aload_n hx hb dX10_takeApart_188 rfl (lv_at hl 0 rfl) ?_
    refine lv_iconst (v := (1 : Int32)) hx hb dX10_takeApart_189 (by decide) ?_
    refine lv_iload_n hx hb dX10_takeApart_190 rfl (lv_at hl 1 rfl) ?_
    obtain ⟨r82, σ83, hc, hf⟩ := obd_some hf
    refine zr_callv (As := [.int (1 : Int32), .int a1_]) (rest := []) X J 8 ho_C_X10.1 ho_C_X10.2.1 ho_C_X10.2.2 yy_X10_pushItem mw_methodLink_TinyCWalker_78_TinyCWalker_pushItem_IIV (d := 0) (zR_ok (by omega) (by decide)) hl.1 rfl (Nat.le_of_ble_eq_true rfl) (tX10_pushItem  hc) dX10_takeApart_191 (fun H locs J => ?_)
    refine lv_aload_n hx hb dX10_takeApart_194 rfl (lv_at hl 0 rfl) ?_
    refine lv_iconst (v := (0 : Int32)) hx hb dX10_takeApart_195 (by decide) ?_
    refine lv_aload_n hx hb dX10_takeApart_196 rfl (lv_at hl 0 rfl) ?_
    obtain ⟨q84, hq84, er, hf⟩ := rbd_some hf
    refine gf_X10_44 X J er dX10_takeApart_197 ?_
    refine lv_iload_n hx hb dX10_takeApart_200 rfl (lv_at hl 1 rfl) ?_
    obtain ⟨r85, σ86, hc, hf⟩ := obd_some hf
    refine zr_callNi (As := [.int a1_]) (rest := [.int (0 : Int32), .ref (ad 8)]) X J q84 (ho_C_X9 hq84).1 (ho_C_X9 hq84).2.1 (ho_C_X9 hq84).2.2 yy_X9_dOf mw_methodLinkNest_TinyCWalker_147_TinyCTree_dOf_II_TinyC (d := 0) (zR_ok (by omega) (by decide)) hl.1 rfl (Nat.le_of_ble_eq_true rfl) (tX9_dOf hq84 hc) dX10_takeApart_201 (fun H locs J => ?_)
    obtain ⟨r87, σ88, hc, hf⟩ := obd_some hf
    refine zr_callv (As := [.int (0 : Int32), .int r85]) (rest := []) X J 8 ho_C_X10.1 ho_C_X10.2.1 ho_C_X10.2.2 yy_X10_pushItem mw_methodLink_TinyCWalker_78_TinyCWalker_pushItem_IIV (d := 0) (zR_ok (by omega) (by decide)) hl.1 rfl (Nat.le_of_ble_eq_true rfl) (tX10_pushItem  hc) dX10_takeApart_204 (fun H locs J => ?_)
    refine lv_aload_n hx hb dX10_takeApart_207 rfl (lv_at hl 0 rfl) ?_
    refine lv_iconst (v := (0 : Int32)) hx hb dX10_takeApart_208 (by decide) ?_
    refine lv_aload_n hx hb dX10_takeApart_209 rfl (lv_at hl 0 rfl) ?_
    obtain ⟨q89, hq89, er, hf⟩ := rbd_some hf
    refine gf_X10_44 X J er dX10_takeApart_210 ?_
    refine lv_iload_n hx hb dX10_takeApart_213 rfl (lv_at hl 1 rfl) ?_
    obtain ⟨r90, σ91, hc, hf⟩ := obd_some hf
    refine zr_callNi (As := [.int a1_]) (rest := [.int (0 : Int32), .ref (ad 8)]) X J q89 (ho_C_X9 hq89).1 (ho_C_X9 hq89).2.1 (ho_C_X9 hq89).2.2 yy_X9_bOf mw_methodLinkNest_TinyCWalker_150_TinyCTree_bOf_II_TinyC (d := 0) (zR_ok (by omega) (by decide)) hl.1 rfl (Nat.le_of_ble_eq_true rfl) (tX9_bOf hq89 hc) dX10_takeApart_214 (fun H locs J => ?_)
    obtain ⟨r92, σ93, hc, hf⟩ := obd_some hf
    refine zr_callv (As := [.int (0 : Int32), .int r90]) (rest := []) X J 8 ho_C_X10.1 ho_C_X10.2.1 ho_C_X10.2.2 yy_X10_pushItem mw_methodLink_TinyCWalker_78_TinyCWalker_pushItem_IIV (d := 0) (zR_ok (by omega) (by decide)) hl.1 rfl (Nat.le_of_ble_eq_true rfl) (tX10_pushItem  hc) dX10_takeApart_217 (fun H locs J => ?_)
    refine lv_goto hx hb dX10_takeApart_220 rfl ?_
    exact zr_vret X J hf dX10_takeApart_268
  have hf := itn h15_ hf
  by_cases h16_ : r2 = (17 : Int32)
  · have hf := itp h16_ hf
    rw [h16_]
    refine lv_tableIn hx hb dX10_takeApart_8 (by decide) (by decide) (tgt := 223) (by rfl) (by decide) ?_
    refine lv_aload_n hx hb dX10_takeApart_223 rfl (lv_at hl 0 rfl) ?_
    refine lv_bipush (v := (7 : Int32)) hx hb dX10_takeApart_224 (by decide) ?_
    refine lv_iload_n hx hb dX10_takeApart_226 rfl (lv_at hl 1 rfl) ?_
    obtain ⟨r94, σ95, hc, hf⟩ := obd_some hf
    refine zr_callv (As := [.int (7 : Int32), .int a1_]) (rest := []) X J 8 ho_C_X10.1 ho_C_X10.2.1 ho_C_X10.2.2 yy_X10_pushItem mw_methodLink_TinyCWalker_78_TinyCWalker_pushItem_IIV (d := 0) (zR_ok (by omega) (by decide)) hl.1 rfl (Nat.le_of_ble_eq_true rfl) (tX10_pushItem  hc) dX10_takeApart_227 (fun H locs J => ?_)
    refine lv_aload_n hx hb dX10_takeApart_230 rfl (lv_at hl 0 rfl) ?_
    refine lv_iconst (v := (0 : Int32)) hx hb dX10_takeApart_231 (by decide) ?_
    refine lv_aload_n hx hb dX10_takeApart_232 rfl (lv_at hl 0 rfl) ?_
    obtain ⟨q96, hq96, er, hf⟩ := rbd_some hf
    refine gf_X10_44 X J er dX10_takeApart_233 ?_
    refine lv_iload_n hx hb dX10_takeApart_236 rfl (lv_at hl 1 rfl) ?_
    obtain ⟨r97, σ98, hc, hf⟩ := obd_some hf
    refine zr_callNi (As := [.int a1_]) (rest := [.int (0 : Int32), .ref (ad 8)]) X J q96 (ho_C_X9 hq96).1 (ho_C_X9 hq96).2.1 (ho_C_X9 hq96).2.2 yy_X9_bOf mw_methodLinkNest_TinyCWalker_150_TinyCTree_bOf_II_TinyC (d := 0) (zR_ok (by omega) (by decide)) hl.1 rfl (Nat.le_of_ble_eq_true rfl) (tX9_bOf hq96 hc) dX10_takeApart_237 (fun H locs J => ?_)
    obtain ⟨r99, σ100, hc, hf⟩ := obd_some hf
    refine zr_callv (As := [.int (0 : Int32), .int r97]) (rest := []) X J 8 ho_C_X10.1 ho_C_X10.2.1 ho_C_X10.2.2 yy_X10_pushItem mw_methodLink_TinyCWalker_78_TinyCWalker_pushItem_IIV (d := 0) (zR_ok (by omega) (by decide)) hl.1 rfl (Nat.le_of_ble_eq_true rfl) (tX10_pushItem  hc) dX10_takeApart_240 (fun H locs J => ?_)
    refine lv_goto hx hb dX10_takeApart_243 rfl ?_
    exact zr_vret X J hf dX10_takeApart_268
  have hf := itn h16_ hf
  by_cases h17_ : r2 = (18 : Int32)
  · have hf := itp h17_ hf
    rw [h17_]
    refine lv_tableIn hx hb dX10_takeApart_8 (by decide) (by decide) (tgt := 246) (by rfl) (by decide) ?_
    refine lv_goto hx hb dX10_takeApart_246 rfl ?_
    exact zr_vret X J hf dX10_takeApart_268
  have hf := itn h17_ hf
  refine lv_tableOut hx hb dX10_takeApart_8 (tgt := 249) (by have := lv_neT h0_ (a := 1) (by decide); have := lv_neT h1_ (a := 2) (by decide); have := lv_neT h2_ (a := 3) (by decide); have := lv_neT h3_ (a := 4) (by decide); have := lv_neT h4_ (a := 5) (by decide); have := lv_neT h5_ (a := 6) (by decide); have := lv_neT h6_ (a := 7) (by decide); have := lv_neT h7_ (a := 8) (by decide); have := lv_neT h8_ (a := 9) (by decide); have := lv_neT h9_ (a := 10) (by decide); have := lv_neT h10_ (a := 11) (by decide); have := lv_neT h11_ (a := 12) (by decide); have := lv_neT h12_ (a := 13) (by decide); have := lv_neT h13_ (a := 14) (by decide); have := lv_neT h14_ (a := 15) (by decide); have := lv_neT h15_ (a := 16) (by decide); have := lv_neT h16_ (a := 17) (by decide); have := lv_neT h17_ (a := 18) (by decide); omega) (by decide) ?_
  refine lv_aload_n hx hb dX10_takeApart_249 rfl (lv_at hl 0 rfl) ?_
  refine lv_iconst (v := (1 : Int32)) hx hb dX10_takeApart_250 (by decide) ?_
  refine lv_iload_n hx hb dX10_takeApart_251 rfl (lv_at hl 1 rfl) ?_
  obtain ⟨r101, σ102, hc, hf⟩ := obd_some hf
  refine zr_callv (As := [.int (1 : Int32), .int a1_]) (rest := []) X J 8 ho_C_X10.1 ho_C_X10.2.1 ho_C_X10.2.2 yy_X10_pushItem mw_methodLink_TinyCWalker_78_TinyCWalker_pushItem_IIV (d := 0) (zR_ok (by omega) (by decide)) hl.1 rfl (Nat.le_of_ble_eq_true rfl) (tX10_pushItem  hc) dX10_takeApart_252 (fun H locs J => ?_)
  refine lv_aload_n hx hb dX10_takeApart_255 rfl (lv_at hl 0 rfl) ?_
  refine lv_iconst (v := (0 : Int32)) hx hb dX10_takeApart_256 (by decide) ?_
  refine lv_aload_n hx hb dX10_takeApart_257 rfl (lv_at hl 0 rfl) ?_
  obtain ⟨q103, hq103, er, hf⟩ := rbd_some hf
  refine gf_X10_44 X J er dX10_takeApart_258 ?_
  refine lv_iload_n hx hb dX10_takeApart_261 rfl (lv_at hl 1 rfl) ?_
  obtain ⟨r104, σ105, hc, hf⟩ := obd_some hf
  refine zr_callNi (As := [.int a1_]) (rest := [.int (0 : Int32), .ref (ad 8)]) X J q103 (ho_C_X9 hq103).1 (ho_C_X9 hq103).2.1 (ho_C_X9 hq103).2.2 yy_X9_bOf mw_methodLinkNest_TinyCWalker_150_TinyCTree_bOf_II_TinyC (d := 0) (zR_ok (by omega) (by decide)) hl.1 rfl (Nat.le_of_ble_eq_true rfl) (tX9_bOf hq103 hc) dX10_takeApart_262 (fun H locs J => ?_)
  obtain ⟨r106, σ107, hc, hf⟩ := obd_some hf
  refine zr_callv (As := [.int (0 : Int32), .int r104]) (rest := []) X J 8 ho_C_X10.1 ho_C_X10.2.1 ho_C_X10.2.2 yy_X10_pushItem mw_methodLink_TinyCWalker_78_TinyCWalker_pushItem_IIV (d := 0) (zR_ok (by omega) (by decide)) hl.1 rfl (Nat.le_of_ble_eq_true rfl) (tX10_pushItem  hc) dX10_takeApart_265 (fun H locs J => ?_)
  exact zr_vret X J hf dX10_takeApart_268
set_option maxHeartbeats 4000000 in
theorem tX10_popValue   {σ u : zSt} {r : Int32} (hf : fX10_popValue ln N M  σ = some (r, u)) : zMi l yX10_popValue cX10_popValue 1 (some .int) (0) D cy shC ad ts ln [.ref (ad 8)] σ r u := by
  refine zM_of (by decide) (Nat.le_of_ble_eq_true rfl) (fun p e s m args below meth c ls ha X J hl => ?_)
  have hx := X.1
  have hb := X.2.1
  have hl : lv_has ls 1 [(0, .ref (ad 8))] := hl
  generalize s.heap = H at J ⊢
  generalize ([] : List Loc) = locs at J ⊢
  show W p l e (zRm (0)) s m args below meth c H locs 0 0 (zQi D cy shC ad ts ln below args s (r, u)) (F0 m 0 ls [])
  unfold fX10_popValue at hf
  refine lv_aload_n hx hb dX10_popValue_0 rfl (lv_at hl 0 rfl) ?_
  refine gf_X10_56 X J dX10_popValue_1 ?_
  refine lv_if_le hx hb dX10_popValue_4 rfl (fun h => ?_) (fun h => ?_)
  · have hf := itp h hf
    refine lv_iconst (v := (0 : Int32)) hx hb dX10_popValue_19 (by decide) ?_
    exact zr_iret X J hf dX10_popValue_20
  · have hf := itn h hf
    refine lv_aload_n hx hb dX10_popValue_7 rfl (lv_at hl 0 rfl) ?_
    refine gf_X10_56 X J dX10_popValue_8 ?_
    refine lv_aload_n hx hb dX10_popValue_11 rfl (lv_at hl 0 rfl) ?_
    refine gf_X10_19 X J dX10_popValue_12 ?_
    refine an_X10_X10f2 X J dX10_popValue_15 ?_
    refine lv_icmp_le hx hb dX10_popValue_16 rfl (fun h => ?_) (fun h => ?_)
    · have hf := itp h hf
      refine lv_aload_n hx hb dX10_popValue_21 rfl (lv_at hl 0 rfl) ?_
      refine lv_dup hx hb dX10_popValue_22 rfl ?_
      refine gf_X10_56 X J dX10_popValue_23 ?_
      refine lv_iconst (v := (1 : Int32)) hx hb dX10_popValue_26 (by decide) ?_
      refine lv_isub hx hb dX10_popValue_27 ?_
      refine pf_X10_56 X J dX10_popValue_28 (fun σ1 H locs eq J => ?_)
      have hf := bnd_eq eq hf
      clear eq
      refine lv_aload_n hx hb dX10_popValue_31 rfl (lv_at hl 0 rfl) ?_
      refine gf_X10_19 X J dX10_popValue_32 ?_
      refine lv_aload_n hx hb dX10_popValue_35 rfl (lv_at hl 0 rfl) ?_
      refine gf_X10_56 X J dX10_popValue_36 ?_
      obtain ⟨hin, hf⟩ := itx hf
      refine al_X10_X10f2 X J hin dX10_popValue_39 ?_
      exact zr_iret X J hf dX10_popValue_40
    · have hf := itn h hf
      refine lv_iconst (v := (0 : Int32)) hx hb dX10_popValue_19 (by decide) ?_
      exact zr_iret X J hf dX10_popValue_20
set_option maxHeartbeats 4000000 in
theorem bX10_finishItem_21 {o : Unit × zSt} (X : zX p s m args meth c D cy shC ad ts cX10_finishItem 3 none RX10)    {σ : zSt} {H : Heap} {locs : List Loc} {ls : Array Slot} (J : zJ D cy shC ad ln s σ H locs) (hl : lv_has ls 3 [(0, .ref (ad 8))]) (hf : fX10_finishItem_b21 ln N M   σ = some o) : W p l e (zRm (1)) s m args below meth c H locs 0 0 (zQv D cy shC ad ts ln below args s o) (F0 m 21 ls []) := by
  have hx := X.1
  have hb := X.2.1
  unfold fX10_finishItem_b21 at hf
  refine lv_aload_n hx hb dX10_finishItem_21 rfl (lv_at hl 0 rfl) ?_
  refine lv_iconst (v := (3 : Int32)) hx hb dX10_finishItem_22 (by decide) ?_
  refine pf_X10_68 X J dX10_finishItem_23 (fun σ3 H locs eq J => ?_)
  have hf := bnd_eq eq hf
  clear eq
  refine lv_goto hx hb dX10_finishItem_26 rfl ?_
  exact zr_vret X J hf dX10_finishItem_47
set_option maxHeartbeats 4000000 in
theorem tX10_finishItem {a1_ : Int32}  {σ u : zSt} {r : Unit} (hf : fX10_finishItem ln N M a1_ σ = some (r, u)) : zMv l yX10_finishItem cX10_finishItem 3 none (1) D cy shC ad ts ln [.ref (ad 8), .int a1_] σ u := by
  refine zM_of (by decide) (Nat.le_of_ble_eq_true rfl) (fun p e s m args below meth c ls ha X J hl => ?_)
  have hx := X.1
  have hb := X.2.1
  have hl : lv_has ls 3 [(0, .ref (ad 8)), (1, .int a1_)] := hl
  generalize s.heap = H at J ⊢
  generalize ([] : List Loc) = locs at J ⊢
  show W p l e (zRm (1)) s m args below meth c H locs 0 0 (zQv D cy shC ad ts ln below args s (r, u)) (F0 m 0 ls [])
  unfold fX10_finishItem at hf
  refine lv_aload_n hx hb dX10_finishItem_0 rfl (lv_at hl 0 rfl) ?_
  obtain ⟨r1, σ2, hc, hf⟩ := obd_some hf
  refine zr_calli (As := []) (rest := []) X J 8 ho_C_X10.1 ho_C_X10.2.1 ho_C_X10.2.2 yy_X10_popValue mw_methodLink_TinyCWalker_88_TinyCWalker_popValue_I (d := 0) (zR_ok (by omega) (by decide)) hl.1 rfl (Nat.le_of_ble_eq_true rfl) (tX10_popValue  hc) dX10_finishItem_1 (fun H locs J => ?_)
  refine lv_istore_n hx hb dX10_finishItem_4 rfl hl (by decide) rfl (fun ls hl => ?_)
  have hl : lv_has ls 3 [(2, .int r1), (0, .ref (ad 8)), (1, .int a1_)] := hl
  refine lv_iload_n hx hb dX10_finishItem_5 rfl (lv_at hl 0 rfl) ?_
  refine lv_if_lt hx hb dX10_finishItem_6 rfl (fun h => ?_) (fun h => ?_)
  · have hf := itp h hf
    exact bX10_finishItem_21 X   J (lv_sub hl [1] rfl) hf
  · have hf := itn h hf
    refine lv_iload_n hx hb dX10_finishItem_9 rfl (lv_at hl 0 rfl) ?_
    refine lv_aload_n hx hb dX10_finishItem_10 rfl (lv_at hl 1 rfl) ?_
    obtain ⟨q4, hq4, er, hf⟩ := rbd_some hf
    refine gf_X10_44 X J er dX10_finishItem_11 ?_
    refine lv_iload_n hx hb dX10_finishItem_14 rfl (lv_at hl 2 rfl) ?_
    obtain ⟨r5, σ6, hc, hf⟩ := obd_some hf
    refine zr_callNi (As := [.int a1_]) (rest := [.int r1]) X J q4 (ho_C_X9 hq4).1 (ho_C_X9 hq4).2.1 (ho_C_X9 hq4).2.2 yy_X9_cOf mw_methodLinkNest_TinyCWalker_160_TinyCTree_cOf_II_TinyC (d := 0) (zR_ok (by omega) (by decide)) hl.1 rfl (Nat.le_of_ble_eq_true rfl) (tX9_cOf hq4 hc) dX10_finishItem_15 (fun H locs J => ?_)
    refine lv_icmp_lt hx hb dX10_finishItem_18 rfl (fun h => ?_) (fun h => ?_)
    · have hf := itp h hf
      refine lv_aload_n hx hb dX10_finishItem_29 rfl (lv_at hl 1 rfl) ?_
      refine lv_aload_n hx hb dX10_finishItem_30 rfl (lv_at hl 1 rfl) ?_
      refine lv_aload_n hx hb dX10_finishItem_31 rfl (lv_at hl 1 rfl) ?_
      obtain ⟨q7, hq7, er, hf⟩ := rbd_some hf
      refine gf_X10_44 X J er dX10_finishItem_32 ?_
      refine lv_iload_n hx hb dX10_finishItem_35 rfl (lv_at hl 2 rfl) ?_
      obtain ⟨r8, σ9, hc, hf⟩ := obd_some hf
      refine zr_callNi (As := [.int a1_]) (rest := [.ref (ad 8), .ref (ad 8)]) X J q7 (ho_C_X9 hq7).1 (ho_C_X9 hq7).2.1 (ho_C_X9 hq7).2.2 yy_X9_aOf mw_methodLinkNest_TinyCWalker_126_TinyCTree_aOf_II_TinyC (d := 0) (zR_ok (by omega) (by decide)) hl.1 rfl (Nat.le_of_ble_eq_true rfl) (tX9_aOf hq7 hc) dX10_finishItem_36 (fun H locs J => ?_)
      refine lv_iload_n hx hb dX10_finishItem_39 rfl (lv_at hl 0 rfl) ?_
      refine lv_iadd hx hb dX10_finishItem_40 ?_
      obtain ⟨r10, σ11, hc, hf⟩ := obd_some hf
      refine zr_calli (As := [.int (r8 + r1)]) (rest := [.ref (ad 8)]) X J 8 ho_C_X10.1 ho_C_X10.2.1 ho_C_X10.2.2 yy_X10_globalAt mw_methodLink_TinyCWalker_129_TinyCWalker_globalAt_II (d := 0) (zR_ok (by omega) (by decide)) hl.1 rfl (Nat.le_of_ble_eq_true rfl) (tX10_globalAt  hc) dX10_finishItem_41 (fun H locs J => ?_)
      obtain ⟨r12, σ13, hc, hf⟩ := obd_some hf
      refine zr_callv (As := [.int r10]) (rest := []) X J 8 ho_C_X10.1 ho_C_X10.2.1 ho_C_X10.2.2 yy_X10_pushValue mw_methodLink_TinyCWalker_105_TinyCWalker_pushValue_IV (d := 0) (zR_ok (by omega) (by decide)) hl.1 rfl (Nat.le_of_ble_eq_true rfl) (tX10_pushValue  hc) dX10_finishItem_44 (fun H locs J => ?_)
      exact zr_vret X J hf dX10_finishItem_47
    · have hf := itn h hf
      exact bX10_finishItem_21 X   J (lv_sub hl [1] rfl) hf
set_option maxHeartbeats 4000000 in
theorem bX10_finishFirst_34 {o : Unit × zSt} (X : zX p s m args meth c D cy shC ad ts cX10_finishFirst 4 none RX10)  {s0_ : Int32}  {σ : zSt} {H : Heap} {locs : List Loc} {ls : Array Slot} (J : zJ D cy shC ad ln s σ H locs) (hl : lv_has ls 4 []) (hf : fX10_finishFirst_b34 ln N M  s0_ σ = some o) : W p l e (zRm (1)) s m args below meth c H locs 0 0 (zQv D cy shC ad ts ln below args s o) (F0 m 34 ls [.int s0_, .ref (ad 8)]) := by
  have hx := X.1
  have hb := X.2.1
  unfold fX10_finishFirst_b34 at hf
  obtain ⟨r11, σ12, hc, hf⟩ := obd_some hf
  refine zr_callv (As := [.int s0_]) (rest := []) X J 8 ho_C_X10.1 ho_C_X10.2.1 ho_C_X10.2.2 yy_X10_pushValue mw_methodLink_TinyCWalker_105_TinyCWalker_pushValue_IV (d := 0) (zR_ok (by omega) (by decide)) hl.1 rfl (Nat.le_of_ble_eq_true rfl) (tX10_pushValue  hc) dX10_finishFirst_34 (fun H locs J => ?_)
  refine lv_goto hx hb dX10_finishFirst_37 rfl ?_
  exact zr_vret X J hf dX10_finishFirst_59
set_option maxHeartbeats 4000000 in
theorem bX10_finishFirst_18 {o : Unit × zSt} (X : zX p s m args meth c D cy shC ad ts cX10_finishFirst 4 none RX10)  {x1_ : Int32} {x2_ : Int32} {s0_ : Int32}  {σ : zSt} {H : Heap} {locs : List Loc} {ls : Array Slot} (J : zJ D cy shC ad ln s σ H locs) (hl : lv_has ls 4 [(0, .ref (ad 8)), (1, .int x1_), (2, .int x2_)]) (hf : fX10_finishFirst_b18 ln N M  x1_ x2_ s0_ σ = some o) : W p l e (zRm (1)) s m args below meth c H locs 0 0 (zQv D cy shC ad ts ln below args s o) (F0 m 18 ls [.int s0_]) := by
  have hx := X.1
  have hb := X.2.1
  unfold fX10_finishFirst_b18 at hf
  refine lv_istore_n hx hb dX10_finishFirst_18 rfl hl (by decide) rfl (fun ls hl => ?_)
  have hl : lv_has ls 4 [(3, .int s0_), (0, .ref (ad 8)), (1, .int x1_), (2, .int x2_)] := hl
  refine lv_iload_n hx hb dX10_finishFirst_19 rfl (lv_at hl 3 rfl) ?_
  refine lv_iload_n hx hb dX10_finishFirst_20 rfl (lv_at hl 0 rfl) ?_
  refine lv_icmp_ne hx hb dX10_finishFirst_21 rfl (fun h => ?_) (fun h => ?_)
  · have hf := itn h hf
    refine lv_aload_n hx hb dX10_finishFirst_40 rfl (lv_at hl 1 rfl) ?_
    refine lv_iconst (v := (2 : Int32)) hx hb dX10_finishFirst_41 (by decide) ?_
    refine lv_iload_n hx hb dX10_finishFirst_42 rfl (lv_at hl 2 rfl) ?_
    obtain ⟨r4, σ5, hc, hf⟩ := obd_some hf
    refine zr_callv (As := [.int (2 : Int32), .int x1_]) (rest := []) X J 8 ho_C_X10.1 ho_C_X10.2.1 ho_C_X10.2.2 yy_X10_pushItem mw_methodLink_TinyCWalker_78_TinyCWalker_pushItem_IIV (d := 0) (zR_ok (by omega) (by decide)) hl.1 rfl (Nat.le_of_ble_eq_true rfl) (tX10_pushItem  hc) dX10_finishFirst_43 (fun H locs J => ?_)
    refine lv_aload_n hx hb dX10_finishFirst_46 rfl (lv_at hl 1 rfl) ?_
    refine lv_iconst (v := (0 : Int32)) hx hb dX10_finishFirst_47 (by decide) ?_
    refine lv_aload_n hx hb dX10_finishFirst_48 rfl (lv_at hl 1 rfl) ?_
    obtain ⟨q6, hq6, er, hf⟩ := rbd_some hf
    refine gf_X10_44 X J er dX10_finishFirst_49 ?_
    refine lv_iload_n hx hb dX10_finishFirst_52 rfl (lv_at hl 2 rfl) ?_
    obtain ⟨r7, σ8, hc, hf⟩ := obd_some hf
    refine zr_callNi (As := [.int x1_]) (rest := [.int (0 : Int32), .ref (ad 8)]) X J q6 (ho_C_X9 hq6).1 (ho_C_X9 hq6).2.1 (ho_C_X9 hq6).2.2 yy_X9_cOf mw_methodLinkNest_TinyCWalker_160_TinyCTree_cOf_II_TinyC (d := 0) (zR_ok (by omega) (by decide)) hl.1 rfl (Nat.le_of_ble_eq_true rfl) (tX9_cOf hq6 hc) dX10_finishFirst_53 (fun H locs J => ?_)
    obtain ⟨r9, σ10, hc, hf⟩ := obd_some hf
    refine zr_callv (As := [.int (0 : Int32), .int r7]) (rest := []) X J 8 ho_C_X10.1 ho_C_X10.2.1 ho_C_X10.2.2 yy_X10_pushItem mw_methodLink_TinyCWalker_78_TinyCWalker_pushItem_IIV (d := 0) (zR_ok (by omega) (by decide)) hl.1 rfl (Nat.le_of_ble_eq_true rfl) (tX10_pushItem  hc) dX10_finishFirst_56 (fun H locs J => ?_)
    exact zr_vret X J hf dX10_finishFirst_59
  · have hf := itp h hf
    refine lv_aload_n hx hb dX10_finishFirst_24 rfl (lv_at hl 1 rfl) ?_
    refine lv_iload_n hx hb dX10_finishFirst_25 rfl (lv_at hl 3 rfl) ?_
    refine lv_if_eq hx hb dX10_finishFirst_26 rfl (fun h => ?_) (fun h => ?_)
    · have hf := itp h hf
      refine lv_iconst (v := (0 : Int32)) hx hb dX10_finishFirst_33 (by decide) ?_
      exact bX10_finishFirst_34 X   J (lv_sub hl [] rfl) hf
    · have hf := itn h hf
      refine lv_iconst (v := (1 : Int32)) hx hb dX10_finishFirst_29 (by decide) ?_
      refine lv_goto hx hb dX10_finishFirst_30 rfl ?_
      exact bX10_finishFirst_34 X   J (lv_sub hl [] rfl) hf
set_option maxHeartbeats 4000000 in
theorem tX10_finishFirst {a1_ : Int32} {a2_ : Int32}  {σ u : zSt} {r : Unit} (hf : fX10_finishFirst ln N M a1_ a2_ σ = some (r, u)) : zMv l yX10_finishFirst cX10_finishFirst 4 none (1) D cy shC ad ts ln [.ref (ad 8), .int a1_, .int a2_] σ u := by
  refine zM_of (by decide) (Nat.le_of_ble_eq_true rfl) (fun p e s m args below meth c ls ha X J hl => ?_)
  have hx := X.1
  have hb := X.2.1
  have hl : lv_has ls 4 [(0, .ref (ad 8)), (1, .int a1_), (2, .int a2_)] := hl
  generalize s.heap = H at J ⊢
  generalize ([] : List Loc) = locs at J ⊢
  show W p l e (zRm (1)) s m args below meth c H locs 0 0 (zQv D cy shC ad ts ln below args s (r, u)) (F0 m 0 ls [])
  unfold fX10_finishFirst at hf
  refine lv_aload_n hx hb dX10_finishFirst_0 rfl (lv_at hl 0 rfl) ?_
  obtain ⟨q1, hq1, er, hf⟩ := rbd_some hf
  refine gf_X10_44 X J er dX10_finishFirst_1 ?_
  refine lv_iload_n hx hb dX10_finishFirst_4 rfl (lv_at hl 1 rfl) ?_
  obtain ⟨r2, σ3, hc, hf⟩ := obd_some hf
  refine zr_callNi (As := [.int a1_]) (rest := []) X J q1 (ho_C_X9 hq1).1 (ho_C_X9 hq1).2.1 (ho_C_X9 hq1).2.2 yy_X9_aOf mw_methodLinkNest_TinyCWalker_126_TinyCTree_aOf_II_TinyC (d := 0) (zR_ok (by omega) (by decide)) hl.1 rfl (Nat.le_of_ble_eq_true rfl) (tX9_aOf hq1 hc) dX10_finishFirst_5 (fun H locs J => ?_)
  refine lv_bipush (v := (9 : Int32)) hx hb dX10_finishFirst_8 (by decide) ?_
  refine lv_icmp_ne hx hb dX10_finishFirst_10 rfl (fun h => ?_) (fun h => ?_)
  · have hf := itn h hf
    refine lv_iconst (v := (0 : Int32)) hx hb dX10_finishFirst_17 (by decide) ?_
    exact bX10_finishFirst_18 X   J (lv_sub hl [0, 1, 2] rfl) hf
  · have hf := itp h hf
    refine lv_iconst (v := (1 : Int32)) hx hb dX10_finishFirst_13 (by decide) ?_
    refine lv_goto hx hb dX10_finishFirst_14 rfl ?_
    exact bX10_finishFirst_18 X   J (lv_sub hl [0, 1, 2] rfl) hf
set_option maxHeartbeats 4000000 in
theorem bX10_finishTwo_37 {o : Unit × zSt} (X : zX p s m args meth c D cy shC ad ts cX10_finishTwo 4 none RX10)  {s0_ : Int32} {s1_ : Int32}  {σ : zSt} {H : Heap} {locs : List Loc} {ls : Array Slot} (J : zJ D cy shC ad ln s σ H locs) (hl : lv_has ls 4 []) (hf : fX10_finishTwo_b37 ln N M  s0_ s1_ σ = some o) : W p l e (zRm (2)) s m args below meth c H locs 0 0 (zQv D cy shC ad ts ln below args s o) (F0 m 37 ls [.int s0_, .int s1_, .ref (ad 8)]) := by
  have hx := X.1
  have hb := X.2.1
  unfold fX10_finishTwo_b37 at hf
  obtain ⟨r6, σ7, hc, hf⟩ := obd_some hf
  refine zr_callv (As := [.int s1_, .int s0_]) (rest := []) X J 8 ho_C_X10.1 ho_C_X10.2.1 ho_C_X10.2.2 yy_X10_finishFirst mw_methodLink_TinyCWalker_197_TinyCWalker_finishFirst_IZV (d := 1) (zR_ok (by omega) (by decide)) hl.1 rfl (Nat.le_of_ble_eq_true rfl) (tX10_finishFirst  hc) dX10_finishTwo_37 (fun H locs J => ?_)
  refine lv_goto hx hb dX10_finishTwo_40 rfl ?_
  exact zr_vret X J hf dX10_finishTwo_72
set_option maxHeartbeats 4000000 in
theorem bX10_finishTwo_26 {o : Unit × zSt} (X : zX p s m args meth c D cy shC ad ts cX10_finishTwo 4 none RX10)  {x1_ : Int32} {x3_ : Int32}  {σ : zSt} {H : Heap} {locs : List Loc} {ls : Array Slot} (J : zJ D cy shC ad ln s σ H locs) (hl : lv_has ls 4 [(0, .ref (ad 8)), (1, .int x1_), (3, .int x3_)]) (hf : fX10_finishTwo_b26 ln N M  x1_ x3_ σ = some o) : W p l e (zRm (2)) s m args below meth c H locs 0 0 (zQv D cy shC ad ts ln below args s o) (F0 m 26 ls []) := by
  have hx := X.1
  have hb := X.2.1
  unfold fX10_finishTwo_b26 at hf
  refine lv_aload_n hx hb dX10_finishTwo_26 rfl (lv_at hl 0 rfl) ?_
  refine lv_iload_n hx hb dX10_finishTwo_27 rfl (lv_at hl 1 rfl) ?_
  refine lv_iload_n hx hb dX10_finishTwo_28 rfl (lv_at hl 2 rfl) ?_
  refine lv_if_eq hx hb dX10_finishTwo_29 rfl (fun h => ?_) (fun h => ?_)
  · have hf := itp h hf
    refine lv_iconst (v := (0 : Int32)) hx hb dX10_finishTwo_36 (by decide) ?_
    exact bX10_finishTwo_37 X   J (lv_sub hl [] rfl) hf
  · have hf := itn h hf
    refine lv_iconst (v := (1 : Int32)) hx hb dX10_finishTwo_32 (by decide) ?_
    refine lv_goto hx hb dX10_finishTwo_33 rfl ?_
    exact bX10_finishTwo_37 X   J (lv_sub hl [] rfl) hf
set_option maxHeartbeats 4000000 in
theorem tX10_finishTwo {a1_ : Int32}  {σ u : zSt} {r : Unit} (hf : fX10_finishTwo ln N M a1_ σ = some (r, u)) : zMv l yX10_finishTwo cX10_finishTwo 4 none (2) D cy shC ad ts ln [.ref (ad 8), .int a1_] σ u := by
  refine zM_of (by decide) (Nat.le_of_ble_eq_true rfl) (fun p e s m args below meth c ls ha X J hl => ?_)
  have hx := X.1
  have hb := X.2.1
  have hl : lv_has ls 4 [(0, .ref (ad 8)), (1, .int a1_)] := hl
  generalize s.heap = H at J ⊢
  generalize ([] : List Loc) = locs at J ⊢
  show W p l e (zRm (2)) s m args below meth c H locs 0 0 (zQv D cy shC ad ts ln below args s (r, u)) (F0 m 0 ls [])
  unfold fX10_finishTwo at hf
  refine lv_aload_n hx hb dX10_finishTwo_0 rfl (lv_at hl 0 rfl) ?_
  obtain ⟨q1, hq1, er, hf⟩ := rbd_some hf
  refine gf_X10_44 X J er dX10_finishTwo_1 ?_
  refine lv_iload_n hx hb dX10_finishTwo_4 rfl (lv_at hl 1 rfl) ?_
  obtain ⟨r2, σ3, hc, hf⟩ := obd_some hf
  refine zr_callNi (As := [.int a1_]) (rest := []) X J q1 (ho_C_X9 hq1).1 (ho_C_X9 hq1).2.1 (ho_C_X9 hq1).2.2 yy_X9_aOf mw_methodLinkNest_TinyCWalker_126_TinyCTree_aOf_II_TinyC (d := 0) (zR_ok (by omega) (by decide)) hl.1 rfl (Nat.le_of_ble_eq_true rfl) (tX9_aOf hq1 hc) dX10_finishTwo_5 (fun H locs J => ?_)
  refine lv_istore_n hx hb dX10_finishTwo_8 rfl hl (by decide) rfl (fun ls hl => ?_)
  have hl : lv_has ls 4 [(2, .int r2), (0, .ref (ad 8)), (1, .int a1_)] := hl
  refine lv_aload_n hx hb dX10_finishTwo_9 rfl (lv_at hl 1 rfl) ?_
  obtain ⟨r4, σ5, hc, hf⟩ := obd_some hf
  refine zr_calli (As := []) (rest := []) X J 8 ho_C_X10.1 ho_C_X10.2.1 ho_C_X10.2.2 yy_X10_popValue mw_methodLink_TinyCWalker_88_TinyCWalker_popValue_I (d := 0) (zR_ok (by omega) (by decide)) hl.1 rfl (Nat.le_of_ble_eq_true rfl) (tX10_popValue  hc) dX10_finishTwo_10 (fun H locs J => ?_)
  refine lv_istore_n hx hb dX10_finishTwo_13 rfl hl (by decide) rfl (fun ls hl => ?_)
  have hl : lv_has ls 4 [(3, .int r4), (2, .int r2), (0, .ref (ad 8)), (1, .int a1_)] := hl
  refine lv_iload_n hx hb dX10_finishTwo_14 rfl (lv_at hl 1 rfl) ?_
  refine lv_bipush (v := (8 : Int32)) hx hb dX10_finishTwo_15 (by decide) ?_
  refine lv_icmp_eq hx hb dX10_finishTwo_17 rfl (fun h => ?_) (fun h => ?_)
  · have hf := itp h hf
    exact bX10_finishTwo_26 X   J (lv_sub hl [2, 3, 0] rfl) hf
  · have hf := itn h hf
    refine lv_iload_n hx hb dX10_finishTwo_20 rfl (lv_at hl 1 rfl) ?_
    refine lv_bipush (v := (9 : Int32)) hx hb dX10_finishTwo_21 (by decide) ?_
    refine lv_icmp_ne hx hb dX10_finishTwo_23 rfl (fun h => ?_) (fun h => ?_)
    · have hf := itn h hf
      refine lv_iload_n hx hb dX10_finishTwo_43 rfl (lv_at hl 1 rfl) ?_
      refine lv_iload_n hx hb dX10_finishTwo_44 rfl (lv_at hl 0 rfl) ?_
      obtain ⟨r8, σ9, hc, hf⟩ := obd_some hf
      refine zr_callTi (As := [.int r2, .int r4]) (rest := []) X J yy_X11_dividesByZero mw_methodLinkNest_TinyCWalker_201_TinyC_dividesByZero_IIZ_TinyC (d := 0) (zR_ok (by omega) (by decide)) hl.1 rfl (Nat.le_of_ble_eq_true rfl) (tX11_dividesByZero  hc) dX10_finishTwo_45 (fun H locs J => ?_)
      refine lv_if_eq hx hb dX10_finishTwo_48 rfl (fun h => ?_) (fun h => ?_)
      · have hf := itp h hf
        refine lv_aload_n hx hb dX10_finishTwo_59 rfl (lv_at hl 2 rfl) ?_
        refine lv_iload_n hx hb dX10_finishTwo_60 rfl (lv_at hl 1 rfl) ?_
        refine lv_aload_n hx hb dX10_finishTwo_61 rfl (lv_at hl 2 rfl) ?_
        obtain ⟨r10, σ11, hc, hf⟩ := obd_some hf
        refine zr_calli (As := []) (rest := [.int r2, .ref (ad 8)]) X J 8 ho_C_X10.1 ho_C_X10.2.1 ho_C_X10.2.2 yy_X10_popValue mw_methodLink_TinyCWalker_88_TinyCWalker_popValue_I (d := 0) (zR_ok (by omega) (by decide)) hl.1 rfl (Nat.le_of_ble_eq_true rfl) (tX10_popValue  hc) dX10_finishTwo_62 (fun H locs J => ?_)
        refine lv_iload_n hx hb dX10_finishTwo_65 rfl (lv_at hl 0 rfl) ?_
        obtain ⟨r12, σ13, hc, hf⟩ := obd_some hf
        refine zr_callTi (As := [.int r2, .int r10, .int r4]) (rest := [.ref (ad 8)]) X J yy_X11_ofTwo mw_methodLinkNest_TinyCWalker_205_TinyC_ofTwo_IIII_TinyC (d := 1) (zR_ok (by omega) (by decide)) hl.1 rfl (Nat.le_of_ble_eq_true rfl) (tX11_ofTwo  hc) dX10_finishTwo_66 (fun H locs J => ?_)
        obtain ⟨r14, σ15, hc, hf⟩ := obd_some hf
        refine zr_callv (As := [.int r12]) (rest := []) X J 8 ho_C_X10.1 ho_C_X10.2.1 ho_C_X10.2.2 yy_X10_pushValue mw_methodLink_TinyCWalker_105_TinyCWalker_pushValue_IV (d := 0) (zR_ok (by omega) (by decide)) hl.1 rfl (Nat.le_of_ble_eq_true rfl) (tX10_pushValue  hc) dX10_finishTwo_69 (fun H locs J => ?_)
        exact zr_vret X J hf dX10_finishTwo_72
      · have hf := itn h hf
        refine lv_aload_n hx hb dX10_finishTwo_51 rfl (lv_at hl 2 rfl) ?_
        refine lv_iconst (v := (2 : Int32)) hx hb dX10_finishTwo_52 (by decide) ?_
        refine pf_X10_68 X J dX10_finishTwo_53 (fun σ16 H locs eq J => ?_)
        have hf := bnd_eq eq hf
        clear eq
        refine lv_goto hx hb dX10_finishTwo_56 rfl ?_
        exact zr_vret X J hf dX10_finishTwo_72
    · have hf := itp h hf
      exact bX10_finishTwo_26 X   J (lv_sub hl [2, 3, 0] rfl) hf
set_option maxHeartbeats 4000000 in
theorem tX10_setGlobal {a1_ : Int32} {a2_ : Int32}  {σ u : zSt} {r : Unit} (hf : fX10_setGlobal ln N M a1_ a2_ σ = some (r, u)) : zMv l yX10_setGlobal cX10_setGlobal 3 none (0) D cy shC ad ts ln [.ref (ad 8), .int a1_, .int a2_] σ u := by
  refine zM_of (by decide) (Nat.le_of_ble_eq_true rfl) (fun p e s m args below meth c ls ha X J hl => ?_)
  have hx := X.1
  have hb := X.2.1
  have hl : lv_has ls 3 [(0, .ref (ad 8)), (1, .int a1_), (2, .int a2_)] := hl
  generalize s.heap = H at J ⊢
  generalize ([] : List Loc) = locs at J ⊢
  show W p l e (zRm (0)) s m args below meth c H locs 0 0 (zQv D cy shC ad ts ln below args s (r, u)) (F0 m 0 ls [])
  unfold fX10_setGlobal at hf
  refine lv_iload_n hx hb dX10_setGlobal_0 rfl (lv_at hl 1 rfl) ?_
  refine lv_if_lt hx hb dX10_setGlobal_1 rfl (fun h => ?_) (fun h => ?_)
  · have hf := itp h hf
    exact zr_vret X J hf dX10_setGlobal_20
  · have hf := itn h hf
    refine lv_iload_n hx hb dX10_setGlobal_4 rfl (lv_at hl 1 rfl) ?_
    refine lv_aload_n hx hb dX10_setGlobal_5 rfl (lv_at hl 0 rfl) ?_
    refine gf_X10_29 X J dX10_setGlobal_6 ?_
    refine an_X10_X10f5 X J dX10_setGlobal_9 ?_
    refine lv_icmp_ge hx hb dX10_setGlobal_10 rfl (fun h => ?_) (fun h => ?_)
    · have hf := itp h hf
      exact zr_vret X J hf dX10_setGlobal_20
    · have hf := itn h hf
      refine lv_aload_n hx hb dX10_setGlobal_13 rfl (lv_at hl 0 rfl) ?_
      refine gf_X10_29 X J dX10_setGlobal_14 ?_
      refine lv_iload_n hx hb dX10_setGlobal_17 rfl (lv_at hl 1 rfl) ?_
      refine lv_iload_n hx hb dX10_setGlobal_18 rfl (lv_at hl 2 rfl) ?_
      obtain ⟨hin, hf⟩ := itx hf
      refine as_X10_X10f5 X J hin dX10_setGlobal_19 (fun σ1 H locs eq J => ?_)
      have hf := bnd_eq eq hf
      clear eq
      exact zr_vret X J hf dX10_setGlobal_20
set_option maxHeartbeats 4000000 in
theorem bX10_finishSetItem_26 {o : Unit × zSt} (X : zX p s m args meth c D cy shC ad ts cX10_finishSetItem 4 none RX10)    {σ : zSt} {H : Heap} {locs : List Loc} {ls : Array Slot} (J : zJ D cy shC ad ln s σ H locs) (hl : lv_has ls 4 [(0, .ref (ad 8))]) (hf : fX10_finishSetItem_b26 ln N M   σ = some o) : W p l e (zRm (1)) s m args below meth c H locs 0 0 (zQv D cy shC ad ts ln below args s o) (F0 m 26 ls []) := by
  have hx := X.1
  have hb := X.2.1
  unfold fX10_finishSetItem_b26 at hf
  refine lv_aload_n hx hb dX10_finishSetItem_26 rfl (lv_at hl 0 rfl) ?_
  refine lv_iconst (v := (3 : Int32)) hx hb dX10_finishSetItem_27 (by decide) ?_
  refine pf_X10_68 X J dX10_finishSetItem_28 (fun σ5 H locs eq J => ?_)
  have hf := bnd_eq eq hf
  clear eq
  refine lv_goto hx hb dX10_finishSetItem_31 rfl ?_
  exact zr_vret X J hf dX10_finishSetItem_49
set_option maxHeartbeats 4000000 in
theorem tX10_finishSetItem {a1_ : Int32}  {σ u : zSt} {r : Unit} (hf : fX10_finishSetItem ln N M a1_ σ = some (r, u)) : zMv l yX10_finishSetItem cX10_finishSetItem 4 none (1) D cy shC ad ts ln [.ref (ad 8), .int a1_] σ u := by
  refine zM_of (by decide) (Nat.le_of_ble_eq_true rfl) (fun p e s m args below meth c ls ha X J hl => ?_)
  have hx := X.1
  have hb := X.2.1
  have hl : lv_has ls 4 [(0, .ref (ad 8)), (1, .int a1_)] := hl
  generalize s.heap = H at J ⊢
  generalize ([] : List Loc) = locs at J ⊢
  show W p l e (zRm (1)) s m args below meth c H locs 0 0 (zQv D cy shC ad ts ln below args s (r, u)) (F0 m 0 ls [])
  unfold fX10_finishSetItem at hf
  refine lv_aload_n hx hb dX10_finishSetItem_0 rfl (lv_at hl 0 rfl) ?_
  obtain ⟨r1, σ2, hc, hf⟩ := obd_some hf
  refine zr_calli (As := []) (rest := []) X J 8 ho_C_X10.1 ho_C_X10.2.1 ho_C_X10.2.2 yy_X10_popValue mw_methodLink_TinyCWalker_88_TinyCWalker_popValue_I (d := 0) (zR_ok (by omega) (by decide)) hl.1 rfl (Nat.le_of_ble_eq_true rfl) (tX10_popValue  hc) dX10_finishSetItem_1 (fun H locs J => ?_)
  refine lv_istore_n hx hb dX10_finishSetItem_4 rfl hl (by decide) rfl (fun ls hl => ?_)
  have hl : lv_has ls 4 [(2, .int r1), (0, .ref (ad 8)), (1, .int a1_)] := hl
  refine lv_aload_n hx hb dX10_finishSetItem_5 rfl (lv_at hl 1 rfl) ?_
  obtain ⟨r3, σ4, hc, hf⟩ := obd_some hf
  refine zr_calli (As := []) (rest := []) X J 8 ho_C_X10.1 ho_C_X10.2.1 ho_C_X10.2.2 yy_X10_popValue mw_methodLink_TinyCWalker_88_TinyCWalker_popValue_I (d := 0) (zR_ok (by omega) (by decide)) hl.1 rfl (Nat.le_of_ble_eq_true rfl) (tX10_popValue  hc) dX10_finishSetItem_6 (fun H locs J => ?_)
  refine lv_istore_n hx hb dX10_finishSetItem_9 rfl hl (by decide) rfl (fun ls hl => ?_)
  have hl : lv_has ls 4 [(3, .int r3), (2, .int r1), (0, .ref (ad 8)), (1, .int a1_)] := hl
  refine lv_iload_n hx hb dX10_finishSetItem_10 rfl (lv_at hl 0 rfl) ?_
  refine lv_if_lt hx hb dX10_finishSetItem_11 rfl (fun h => ?_) (fun h => ?_)
  · have hf := itp h hf
    exact bX10_finishSetItem_26 X   J (lv_sub hl [2] rfl) hf
  · have hf := itn h hf
    refine lv_iload_n hx hb dX10_finishSetItem_14 rfl (lv_at hl 0 rfl) ?_
    refine lv_aload_n hx hb dX10_finishSetItem_15 rfl (lv_at hl 2 rfl) ?_
    obtain ⟨q6, hq6, er, hf⟩ := rbd_some hf
    refine gf_X10_44 X J er dX10_finishSetItem_16 ?_
    refine lv_iload_n hx hb dX10_finishSetItem_19 rfl (lv_at hl 3 rfl) ?_
    obtain ⟨r7, σ8, hc, hf⟩ := obd_some hf
    refine zr_callNi (As := [.int a1_]) (rest := [.int r3]) X J q6 (ho_C_X9 hq6).1 (ho_C_X9 hq6).2.1 (ho_C_X9 hq6).2.2 yy_X9_cOf mw_methodLinkNest_TinyCWalker_160_TinyCTree_cOf_II_TinyC (d := 0) (zR_ok (by omega) (by decide)) hl.1 rfl (Nat.le_of_ble_eq_true rfl) (tX9_cOf hq6 hc) dX10_finishSetItem_20 (fun H locs J => ?_)
    refine lv_icmp_lt hx hb dX10_finishSetItem_23 rfl (fun h => ?_) (fun h => ?_)
    · have hf := itp h hf
      refine lv_aload_n hx hb dX10_finishSetItem_34 rfl (lv_at hl 2 rfl) ?_
      refine lv_aload_n hx hb dX10_finishSetItem_35 rfl (lv_at hl 2 rfl) ?_
      obtain ⟨q9, hq9, er, hf⟩ := rbd_some hf
      refine gf_X10_44 X J er dX10_finishSetItem_36 ?_
      refine lv_iload_n hx hb dX10_finishSetItem_39 rfl (lv_at hl 3 rfl) ?_
      obtain ⟨r10, σ11, hc, hf⟩ := obd_some hf
      refine zr_callNi (As := [.int a1_]) (rest := [.ref (ad 8)]) X J q9 (ho_C_X9 hq9).1 (ho_C_X9 hq9).2.1 (ho_C_X9 hq9).2.2 yy_X9_aOf mw_methodLinkNest_TinyCWalker_126_TinyCTree_aOf_II_TinyC (d := 0) (zR_ok (by omega) (by decide)) hl.1 rfl (Nat.le_of_ble_eq_true rfl) (tX9_aOf hq9 hc) dX10_finishSetItem_40 (fun H locs J => ?_)
      refine lv_iload_n hx hb dX10_finishSetItem_43 rfl (lv_at hl 0 rfl) ?_
      refine lv_iadd hx hb dX10_finishSetItem_44 ?_
      refine lv_iload_n hx hb dX10_finishSetItem_45 rfl (lv_at hl 1 rfl) ?_
      obtain ⟨r12, σ13, hc, hf⟩ := obd_some hf
      refine zr_callv (As := [.int (r10 + r3), .int r1]) (rest := []) X J 8 ho_C_X10.1 ho_C_X10.2.1 ho_C_X10.2.2 yy_X10_setGlobal mw_methodLink_TinyCWalker_182_TinyCWalker_setGlobal_IIV (d := 0) (zR_ok (by omega) (by decide)) hl.1 rfl (Nat.le_of_ble_eq_true rfl) (tX10_setGlobal  hc) dX10_finishSetItem_46 (fun H locs J => ?_)
      exact zr_vret X J hf dX10_finishSetItem_49
    · have hf := itn h hf
      exact bX10_finishSetItem_26 X   J (lv_sub hl [2] rfl) hf
set_option maxHeartbeats 4000000 in
theorem tX10_dropFrame   {σ u : zSt} {r : Unit} (hf : fX10_dropFrame ln N M  σ = some (r, u)) : zMv l yX10_dropFrame cX10_dropFrame 1 none (0) D cy shC ad ts ln [.ref (ad 8)] σ u := by
  refine zM_of (by decide) (Nat.le_of_ble_eq_true rfl) (fun p e s m args below meth c ls ha X J hl => ?_)
  have hx := X.1
  have hb := X.2.1
  have hl : lv_has ls 1 [(0, .ref (ad 8))] := hl
  generalize s.heap = H at J ⊢
  generalize ([] : List Loc) = locs at J ⊢
  show W p l e (zRm (0)) s m args below meth c H locs 0 0 (zQv D cy shC ad ts ln below args s (r, u)) (F0 m 0 ls [])
  unfold fX10_dropFrame at hf
  refine lv_aload_n hx hb dX10_dropFrame_0 rfl (lv_at hl 0 rfl) ?_
  refine gf_X10_62 X J dX10_dropFrame_1 ?_
  refine lv_if_le hx hb dX10_dropFrame_4 rfl (fun h => ?_) (fun h => ?_)
  · have hf := itp h hf
    exact zr_vret X J hf dX10_dropFrame_42
  · have hf := itn h hf
    refine lv_aload_n hx hb dX10_dropFrame_7 rfl (lv_at hl 0 rfl) ?_
    refine gf_X10_62 X J dX10_dropFrame_8 ?_
    refine lv_aload_n hx hb dX10_dropFrame_11 rfl (lv_at hl 0 rfl) ?_
    refine gf_X10_35 X J dX10_dropFrame_12 ?_
    refine an_X10_X10f7 X J dX10_dropFrame_15 ?_
    refine lv_icmp_gt hx hb dX10_dropFrame_16 rfl (fun h => ?_) (fun h => ?_)
    · have hf := itp h hf
      exact zr_vret X J hf dX10_dropFrame_42
    · have hf := itn h hf
      refine lv_aload_n hx hb dX10_dropFrame_19 rfl (lv_at hl 0 rfl) ?_
      refine lv_dup hx hb dX10_dropFrame_20 rfl ?_
      refine gf_X10_62 X J dX10_dropFrame_21 ?_
      refine lv_iconst (v := (1 : Int32)) hx hb dX10_dropFrame_24 (by decide) ?_
      refine lv_isub hx hb dX10_dropFrame_25 ?_
      refine pf_X10_62 X J dX10_dropFrame_26 (fun σ1 H locs eq J => ?_)
      have hf := bnd_eq eq hf
      clear eq
      refine lv_aload_n hx hb dX10_dropFrame_29 rfl (lv_at hl 0 rfl) ?_
      refine lv_aload_n hx hb dX10_dropFrame_30 rfl (lv_at hl 0 rfl) ?_
      refine gf_X10_35 X J dX10_dropFrame_31 ?_
      refine lv_aload_n hx hb dX10_dropFrame_34 rfl (lv_at hl 0 rfl) ?_
      refine gf_X10_62 X J dX10_dropFrame_35 ?_
      obtain ⟨hin, hf⟩ := itx hf
      refine al_X10_X10f7 X J hin dX10_dropFrame_38 ?_
      refine pf_X10_65 X J dX10_dropFrame_39 (fun σ2 H locs eq J => ?_)
      have hf := bnd_eq eq hf
      clear eq
      exact zr_vret X J hf dX10_dropFrame_42
set_option maxHeartbeats 4000000 in
theorem bX10_finishReturn_45 {o : Unit × zSt} (X : zX p s m args meth c D cy shC ad ts cX10_finishReturn 2 none RX10)    {σ : zSt} {H : Heap} {locs : List Loc} {ls : Array Slot} (J : zJ D cy shC ad ln s σ H locs) (hl : lv_has ls 2 [(0, .ref (ad 8))]) (hf : fX10_finishReturn_b45 ln N M   σ = some o) : W p l e (zRm (1)) s m args below meth c H locs 0 0 (zQv D cy shC ad ts ln below args s o) (F0 m 45 ls []) := by
  have hx := X.1
  have hb := X.2.1
  unfold fX10_finishReturn_b45 at hf
  refine lv_aload_n hx hb dX10_finishReturn_45 rfl (lv_at hl 0 rfl) ?_
  obtain ⟨r2, σ3, hc, hf⟩ := obd_some hf
  refine zr_callv (As := []) (rest := []) X J 8 ho_C_X10.1 ho_C_X10.2.1 ho_C_X10.2.2 yy_X10_dropFrame mw_methodLink_TinyCWalker_117_TinyCWalker_dropFrame_V (d := 0) (zR_ok (by omega) (by decide)) hl.1 rfl (Nat.le_of_ble_eq_true rfl) (tX10_dropFrame  hc) dX10_finishReturn_46 (fun H locs J => ?_)
  exact zr_vret X J hf dX10_finishReturn_49
set_option maxHeartbeats 4000000 in
theorem bX10_finishReturn_7 {o : Unit × zSt} (X : zX p s m args meth c D cy shC ad ts cX10_finishReturn 2 none RX10)  : ∀ (n : Nat) (x1_ : Int32) (σ : zSt) (H : Heap) (locs : List Loc) (ls : Array Slot), zJ D cy shC ad ln s σ H locs → lv_has ls 2 [(0, .ref (ad 8)), (1, .int x1_)] → fX10_finishReturn_b7 ln N M  n x1_ σ = some o → W p l e (zRm (1)) s m args below meth c H locs 0 0 (zQv D cy shC ad ts ln below args s o) (F0 m 7 ls []) := by
  have hx := X.1
  have hb := X.2.1
  intro n
  induction n with
  | zero =>
    intro x1_ σ H locs ls J hl hf
    rw [fX10_finishReturn_b7] at hf
    cases hf
  | succ n ih =>
    intro x1_ σ H locs ls J hl hf
    rw [fX10_finishReturn_b7] at hf
    refine lv_iload_n hx hb dX10_finishReturn_7 rfl (lv_at hl 1 rfl) ?_
    refine lv_if_lt hx hb dX10_finishReturn_8 rfl (fun h => ?_) (fun h => ?_)
    · have hf := itp h hf
      exact bX10_finishReturn_45 X   J (lv_sub hl [0] rfl) hf
    · have hf := itn h hf
      refine lv_iload_n hx hb dX10_finishReturn_11 rfl (lv_at hl 1 rfl) ?_
      refine lv_aload_n hx hb dX10_finishReturn_12 rfl (lv_at hl 0 rfl) ?_
      refine gf_X10_23 X J dX10_finishReturn_13 ?_
      refine an_X10_X10f3 X J dX10_finishReturn_16 ?_
      refine lv_icmp_ge hx hb dX10_finishReturn_17 rfl (fun h => ?_) (fun h => ?_)
      · have hf := itp h hf
        exact bX10_finishReturn_45 X   J (lv_sub hl [0] rfl) hf
      · have hf := itn h hf
        refine lv_aload_n hx hb dX10_finishReturn_20 rfl (lv_at hl 0 rfl) ?_
        refine lv_iload_n hx hb dX10_finishReturn_21 rfl (lv_at hl 1 rfl) ?_
        refine pf_X10_59 X J dX10_finishReturn_22 (fun σ4 H locs eq J => ?_)
        have hf := bnd_eq eq hf
        clear eq
        refine lv_aload_n hx hb dX10_finishReturn_25 rfl (lv_at hl 0 rfl) ?_
        refine gf_X10_23 X J dX10_finishReturn_26 ?_
        refine lv_iload_n hx hb dX10_finishReturn_29 rfl (lv_at hl 1 rfl) ?_
        obtain ⟨hin, hf⟩ := itx hf
        refine al_X10_X10f3 X J hin dX10_finishReturn_30 ?_
        refine lv_bipush (v := (6 : Int32)) hx hb dX10_finishReturn_31 (by decide) ?_
        refine lv_icmp_ne hx hb dX10_finishReturn_33 rfl (fun h => ?_) (fun h => ?_)
        · have hf := itn h hf
          obtain ⟨x5, eq⟩ : ∃ z, z = x1_ + (-1 : Int32) := ⟨_, rfl⟩
          have hf := bnd_eq eq hf
          refine lv_iinc hx hb dX10_finishReturn_39 hl (k := 1) rfl (v := x5) (by rw [eq]; rfl) (by decide) rfl (fun ls hl => ?_)
          clear eq
          have hl : lv_has ls 2 [(1, .int x5), (0, .ref (ad 8))] := hl
          refine lv_goto hx hb dX10_finishReturn_42 rfl ?_
          exact ih _ _ _ _ _ J (lv_sub hl [1, 0] rfl) hf
        · have hf := itp h hf
          refine lv_goto hx hb dX10_finishReturn_36 rfl ?_
          exact bX10_finishReturn_45 X   J (lv_sub hl [0] rfl) hf
set_option maxHeartbeats 4000000 in
theorem tX10_finishReturn   {σ u : zSt} {r : Unit} (hf : fX10_finishReturn ln N M  σ = some (r, u)) : zMv l yX10_finishReturn cX10_finishReturn 2 none (1) D cy shC ad ts ln [.ref (ad 8)] σ u := by
  refine zM_of (by decide) (Nat.le_of_ble_eq_true rfl) (fun p e s m args below meth c ls ha X J hl => ?_)
  have hx := X.1
  have hb := X.2.1
  have hl : lv_has ls 2 [(0, .ref (ad 8))] := hl
  generalize s.heap = H at J ⊢
  generalize ([] : List Loc) = locs at J ⊢
  show W p l e (zRm (1)) s m args below meth c H locs 0 0 (zQv D cy shC ad ts ln below args s (r, u)) (F0 m 0 ls [])
  unfold fX10_finishReturn at hf
  refine lv_aload_n hx hb dX10_finishReturn_0 rfl (lv_at hl 0 rfl) ?_
  refine gf_X10_59 X J dX10_finishReturn_1 ?_
  refine lv_iconst (v := (1 : Int32)) hx hb dX10_finishReturn_4 (by decide) ?_
  refine lv_isub hx hb dX10_finishReturn_5 ?_
  refine lv_topi (fun x1 eq => ?_)
  have hf := bnd_eq eq hf
  clear eq
  refine lv_istore_n hx hb dX10_finishReturn_6 rfl hl (by decide) rfl (fun ls hl => ?_)
  have hl : lv_has ls 2 [(1, .int x1), (0, .ref (ad 8))] := hl
  exact bX10_finishReturn_7 X  N _ _ _ _ _ J (lv_sub hl [1, 0] rfl) hf
set_option maxHeartbeats 4000000 in
theorem bX10_finishChoice_26 {o : Unit × zSt} (X : zX p s m args meth c D cy shC ad ts cX10_finishChoice 3 none RX10)  {s0_ : Int32}  {σ : zSt} {H : Heap} {locs : List Loc} {ls : Array Slot} (J : zJ D cy shC ad ln s σ H locs) (hl : lv_has ls 3 [(0, .ref (ad 8))]) (hf : fX10_finishChoice_b26 ln N M  s0_ σ = some o) : W p l e (zRm (1)) s m args below meth c H locs 0 0 (zQv D cy shC ad ts ln below args s o) (F0 m 26 ls [.int s0_]) := by
  have hx := X.1
  have hb := X.2.1
  unfold fX10_finishChoice_b26 at hf
  refine lv_istore_n hx hb dX10_finishChoice_26 rfl hl (by decide) rfl (fun ls hl => ?_)
  have hl : lv_has ls 3 [(2, .int s0_), (0, .ref (ad 8))] := hl
  refine lv_aload_n hx hb dX10_finishChoice_27 rfl (lv_at hl 1 rfl) ?_
  obtain ⟨q6, hq6, er, hf⟩ := rbd_some hf
  refine gf_X10_44 X J er dX10_finishChoice_28 ?_
  refine lv_iload_n hx hb dX10_finishChoice_31 rfl (lv_at hl 0 rfl) ?_
  obtain ⟨r7, σ8, hc, hf⟩ := obd_some hf
  refine zr_callNi (As := [.int s0_]) (rest := []) X J q6 (ho_C_X9 hq6).1 (ho_C_X9 hq6).2.1 (ho_C_X9 hq6).2.2 yy_X9_has mw_methodLinkNest_TinyCWalker_163_TinyCTree_has_IZ_TinyC (d := 0) (zR_ok (by omega) (by decide)) hl.1 rfl (Nat.le_of_ble_eq_true rfl) (tX9_has hq6 hc) dX10_finishChoice_32 (fun H locs J => ?_)
  refine lv_if_eq hx hb dX10_finishChoice_35 rfl (fun h => ?_) (fun h => ?_)
  · have hf := itp h hf
    exact zr_vret X J hf dX10_finishChoice_44
  · have hf := itn h hf
    refine lv_aload_n hx hb dX10_finishChoice_38 rfl (lv_at hl 1 rfl) ?_
    refine lv_iconst (v := (0 : Int32)) hx hb dX10_finishChoice_39 (by decide) ?_
    refine lv_iload_n hx hb dX10_finishChoice_40 rfl (lv_at hl 0 rfl) ?_
    obtain ⟨r9, σ10, hc, hf⟩ := obd_some hf
    refine zr_callv (As := [.int (0 : Int32), .int s0_]) (rest := []) X J 8 ho_C_X10.1 ho_C_X10.2.1 ho_C_X10.2.2 yy_X10_pushItem mw_methodLink_TinyCWalker_78_TinyCWalker_pushItem_IIV (d := 0) (zR_ok (by omega) (by decide)) hl.1 rfl (Nat.le_of_ble_eq_true rfl) (tX10_pushItem  hc) dX10_finishChoice_41 (fun H locs J => ?_)
    exact zr_vret X J hf dX10_finishChoice_44
set_option maxHeartbeats 4000000 in
theorem tX10_finishChoice {a1_ : Int32}  {σ u : zSt} {r : Unit} (hf : fX10_finishChoice ln N M a1_ σ = some (r, u)) : zMv l yX10_finishChoice cX10_finishChoice 3 none (1) D cy shC ad ts ln [.ref (ad 8), .int a1_] σ u := by
  refine zM_of (by decide) (Nat.le_of_ble_eq_true rfl) (fun p e s m args below meth c ls ha X J hl => ?_)
  have hx := X.1
  have hb := X.2.1
  have hl : lv_has ls 3 [(0, .ref (ad 8)), (1, .int a1_)] := hl
  generalize s.heap = H at J ⊢
  generalize ([] : List Loc) = locs at J ⊢
  show W p l e (zRm (1)) s m args below meth c H locs 0 0 (zQv D cy shC ad ts ln below args s (r, u)) (F0 m 0 ls [])
  unfold fX10_finishChoice at hf
  refine lv_aload_n hx hb dX10_finishChoice_0 rfl (lv_at hl 0 rfl) ?_
  obtain ⟨r1, σ2, hc, hf⟩ := obd_some hf
  refine zr_calli (As := []) (rest := []) X J 8 ho_C_X10.1 ho_C_X10.2.1 ho_C_X10.2.2 yy_X10_popValue mw_methodLink_TinyCWalker_88_TinyCWalker_popValue_I (d := 0) (zR_ok (by omega) (by decide)) hl.1 rfl (Nat.le_of_ble_eq_true rfl) (tX10_popValue  hc) dX10_finishChoice_1 (fun H locs J => ?_)
  refine lv_if_eq hx hb dX10_finishChoice_4 rfl (fun h => ?_) (fun h => ?_)
  · have hf := itp h hf
    refine lv_aload_n hx hb dX10_finishChoice_18 rfl (lv_at hl 0 rfl) ?_
    obtain ⟨q3, hq3, er, hf⟩ := rbd_some hf
    refine gf_X10_44 X J er dX10_finishChoice_19 ?_
    refine lv_iload_n hx hb dX10_finishChoice_22 rfl (lv_at hl 1 rfl) ?_
    obtain ⟨r4, σ5, hc, hf⟩ := obd_some hf
    refine zr_callNi (As := [.int a1_]) (rest := []) X J q3 (ho_C_X9 hq3).1 (ho_C_X9 hq3).2.1 (ho_C_X9 hq3).2.2 yy_X9_dOf mw_methodLinkNest_TinyCWalker_147_TinyCTree_dOf_II_TinyC (d := 0) (zR_ok (by omega) (by decide)) hl.1 rfl (Nat.le_of_ble_eq_true rfl) (tX9_dOf hq3 hc) dX10_finishChoice_23 (fun H locs J => ?_)
    exact bX10_finishChoice_26 X   J (lv_sub hl [0] rfl) hf
  · have hf := itn h hf
    refine lv_aload_n hx hb dX10_finishChoice_7 rfl (lv_at hl 0 rfl) ?_
    obtain ⟨q11, hq11, er, hf⟩ := rbd_some hf
    refine gf_X10_44 X J er dX10_finishChoice_8 ?_
    refine lv_iload_n hx hb dX10_finishChoice_11 rfl (lv_at hl 1 rfl) ?_
    obtain ⟨r12, σ13, hc, hf⟩ := obd_some hf
    refine zr_callNi (As := [.int a1_]) (rest := []) X J q11 (ho_C_X9 hq11).1 (ho_C_X9 hq11).2.1 (ho_C_X9 hq11).2.2 yy_X9_cOf mw_methodLinkNest_TinyCWalker_160_TinyCTree_cOf_II_TinyC (d := 0) (zR_ok (by omega) (by decide)) hl.1 rfl (Nat.le_of_ble_eq_true rfl) (tX9_cOf hq11 hc) dX10_finishChoice_12 (fun H locs J => ?_)
    refine lv_goto hx hb dX10_finishChoice_15 rfl ?_
    exact bX10_finishChoice_26 X   J (lv_sub hl [0] rfl) hf
end
