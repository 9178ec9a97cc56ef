section
variable {p : Program} {l : Launch} {e : Env} {s : State} {m : MethodId} {args : Array Value} {below : List Frame} {meth : Method} {c : Code} {D : va_G} {cy : Nat → ClassId} {ad ts : Nat → Nat} {ln : Nat → Nat} {N M : Nat}
set_option maxHeartbeats 4000000 in
theorem bX11_dividesByZero_12 {o : Int32 × zSt} (X : zX p s m args meth c D cy shC ad ts cX11_dividesByZero 2 (some .boolean) RX11)  {x1_ : Int32}  {σ : zSt} {H : Heap} {locs : List Loc} {ls : Array Slot} (J : zJ D cy shC ad ln s σ H locs) (hl : lv_has ls 2 [(1, .int x1_)]) (hf : fX11_dividesByZero_b12 ln N M  x1_ σ = some o) : W p l e (zRm (0)) s m args below meth c H locs 0 0 (zQi D cy shC ad ts ln below args s o) (F0 m 12 ls []) := by
  have hx := X.1
  have hb := X.2.1
  unfold fX11_dividesByZero_b12 at hf
  refine lv_iload_n hx hb dX11_dividesByZero_12 rfl (lv_at hl 0 rfl) ?_
  refine lv_if_ne hx hb dX11_dividesByZero_13 rfl (fun h => ?_) (fun h => ?_)
  · have hf := itn h hf
    refine lv_iconst (v := (0 : Int32)) hx hb dX11_dividesByZero_20 (by decide) ?_
    exact zr_zretc X J (by decide) hf dX11_dividesByZero_21
  · have hf := itp h hf
    refine lv_iconst (v := (1 : Int32)) hx hb dX11_dividesByZero_16 (by decide) ?_
    refine lv_goto hx hb dX11_dividesByZero_17 rfl ?_
    exact zr_zretc X J (by decide) hf dX11_dividesByZero_21
set_option maxHeartbeats 4000000 in
theorem tX11_dividesByZero {a0_ : Int32} {a1_ : Int32}  {σ u : zSt} {r : Int32} (hf : fX11_dividesByZero ln N M a0_ a1_ σ = some (r, u)) : zMi l yX11_dividesByZero cX11_dividesByZero 2 (some .boolean) (0) D cy shC ad ts ln [.int a0_, .int a1_] σ r u := by
  refine zM_of (by decide) (Nat.le_of_ble_eq_true rfl) (fun p e s m args below meth c ls ha X J hl => ?_)
  have hx := X.1
  have hb := X.2.1
  have hl : lv_has ls 2 [(0, .int a0_), (1, .int a1_)] := hl
  generalize s.heap = H at J ⊢
  generalize ([] : List Loc) = locs at J ⊢
  show W p l e (zRm (0)) s m args below meth c H locs 0 0 (zQi D cy shC ad ts ln below args s (r, u)) (F0 m 0 ls [])
  unfold fX11_dividesByZero at hf
  refine lv_iload_n hx hb dX11_dividesByZero_0 rfl (lv_at hl 0 rfl) ?_
  refine lv_bipush (v := (27 : Int32)) hx hb dX11_dividesByZero_1 (by decide) ?_
  refine lv_icmp_eq hx hb dX11_dividesByZero_3 rfl (fun h => ?_) (fun h => ?_)
  · have hf := itp h hf
    exact bX11_dividesByZero_12 X   J (lv_sub hl [1] rfl) hf
  · have hf := itn h hf
    refine lv_iload_n hx hb dX11_dividesByZero_6 rfl (lv_at hl 0 rfl) ?_
    refine lv_bipush (v := (28 : Int32)) hx hb dX11_dividesByZero_7 (by decide) ?_
    refine lv_icmp_ne hx hb dX11_dividesByZero_9 rfl (fun h => ?_) (fun h => ?_)
    · have hf := itn h hf
      refine lv_iconst (v := (0 : Int32)) hx hb dX11_dividesByZero_20 (by decide) ?_
      exact zr_zretc X J (by decide) hf dX11_dividesByZero_21
    · have hf := itp h hf
      exact bX11_dividesByZero_12 X   J (lv_sub hl [1] rfl) hf
set_option maxHeartbeats 4000000 in
theorem tX11_compares {a0_ : Int32} {a1_ : Int32} {a2_ : Int32}  {σ u : zSt} {r : Int32} (hf : fX11_compares ln N M a0_ a1_ a2_ σ = some (r, u)) : zMi l yX11_compares cX11_compares 3 (some .boolean) (0) D cy shC ad ts ln [.int a0_, .int a1_, .int a2_] σ r u := by
  refine zM_of (by decide) (Nat.le_of_ble_eq_true rfl) (fun p e s m args below meth c ls ha X J hl => ?_)
  have hx := X.1
  have hb := X.2.1
  have hl : lv_has ls 3 [(0, .int a0_), (1, .int a1_), (2, .int a2_)] := hl
  generalize s.heap = H at J ⊢
  generalize ([] : List Loc) = locs at J ⊢
  show W p l e (zRm (0)) s m args below meth c H locs 0 0 (zQi D cy shC ad ts ln below args s (r, u)) (F0 m 0 ls [])
  unfold fX11_compares at hf
  refine lv_iload_n hx hb dX11_compares_0 rfl (lv_at hl 0 rfl) ?_
  by_cases h0_ : a0_ = (13 : Int32)
  · have hf := itp h0_ hf
    rw [h0_]
    refine lv_tableIn hx hb dX11_compares_1 (by decide) (by decide) (tgt := 40) (by rfl) (by decide) ?_
    refine lv_iload_n hx hb dX11_compares_40 rfl (lv_at hl 1 rfl) ?_
    refine lv_iload_n hx hb dX11_compares_41 rfl (lv_at hl 2 rfl) ?_
    refine lv_icmp_ne hx hb dX11_compares_42 rfl (fun h => ?_) (fun h => ?_)
    · have hf := itn h hf
      refine lv_iconst (v := (0 : Int32)) hx hb dX11_compares_49 (by decide) ?_
      exact zr_zretc X J (by decide) hf dX11_compares_50
    · have hf := itp h hf
      refine lv_iconst (v := (1 : Int32)) hx hb dX11_compares_45 (by decide) ?_
      refine lv_goto hx hb dX11_compares_46 rfl ?_
      exact zr_zretc X J (by decide) hf dX11_compares_50
  have hf := itn h0_ hf
  by_cases h1_ : a0_ = (14 : Int32)
  · have hf := itp h1_ hf
    rw [h1_]
    refine lv_tableIn hx hb dX11_compares_1 (by decide) (by decide) (tgt := 51) (by rfl) (by decide) ?_
    refine lv_iload_n hx hb dX11_compares_51 rfl (lv_at hl 1 rfl) ?_
    refine lv_iload_n hx hb dX11_compares_52 rfl (lv_at hl 2 rfl) ?_
    refine lv_icmp_eq hx hb dX11_compares_53 rfl (fun h => ?_) (fun h => ?_)
    · have hf := itp h hf
      refine lv_iconst (v := (0 : Int32)) hx hb dX11_compares_60 (by decide) ?_
      exact zr_zretc X J (by decide) hf dX11_compares_61
    · have hf := itn h hf
      refine lv_iconst (v := (1 : Int32)) hx hb dX11_compares_56 (by decide) ?_
      refine lv_goto hx hb dX11_compares_57 rfl ?_
      exact zr_zretc X J (by decide) hf dX11_compares_61
  have hf := itn h1_ hf
  by_cases h2_ : a0_ = (15 : Int32)
  · have hf := itp h2_ hf
    rw [h2_]
    refine lv_tableIn hx hb dX11_compares_1 (by decide) (by decide) (tgt := 62) (by rfl) (by decide) ?_
    refine lv_iload_n hx hb dX11_compares_62 rfl (lv_at hl 1 rfl) ?_
    refine lv_iload_n hx hb dX11_compares_63 rfl (lv_at hl 2 rfl) ?_
    refine lv_icmp_ge hx hb dX11_compares_64 rfl (fun h => ?_) (fun h => ?_)
    · have hf := itp h hf
      refine lv_iconst (v := (0 : Int32)) hx hb dX11_compares_71 (by decide) ?_
      exact zr_zretc X J (by decide) hf dX11_compares_72
    · have hf := itn h hf
      refine lv_iconst (v := (1 : Int32)) hx hb dX11_compares_67 (by decide) ?_
      refine lv_goto hx hb dX11_compares_68 rfl ?_
      exact zr_zretc X J (by decide) hf dX11_compares_72
  have hf := itn h2_ hf
  by_cases h3_ : a0_ = (16 : Int32)
  · have hf := itp h3_ hf
    rw [h3_]
    refine lv_tableIn hx hb dX11_compares_1 (by decide) (by decide) (tgt := 73) (by rfl) (by decide) ?_
    refine lv_iload_n hx hb dX11_compares_73 rfl (lv_at hl 1 rfl) ?_
    refine lv_iload_n hx hb dX11_compares_74 rfl (lv_at hl 2 rfl) ?_
    refine lv_icmp_gt hx hb dX11_compares_75 rfl (fun h => ?_) (fun h => ?_)
    · have hf := itp h hf
      refine lv_iconst (v := (0 : Int32)) hx hb dX11_compares_82 (by decide) ?_
      exact zr_zretc X J (by decide) hf dX11_compares_83
    · have hf := itn h hf
      refine lv_iconst (v := (1 : Int32)) hx hb dX11_compares_78 (by decide) ?_
      refine lv_goto hx hb dX11_compares_79 rfl ?_
      exact zr_zretc X J (by decide) hf dX11_compares_83
  have hf := itn h3_ hf
  by_cases h4_ : a0_ = (17 : Int32)
  · have hf := itp h4_ hf
    rw [h4_]
    refine lv_tableIn hx hb dX11_compares_1 (by decide) (by decide) (tgt := 84) (by rfl) (by decide) ?_
    refine lv_iload_n hx hb dX11_compares_84 rfl (lv_at hl 1 rfl) ?_
    refine lv_iload_n hx hb dX11_compares_85 rfl (lv_at hl 2 rfl) ?_
    refine lv_icmp_le hx hb dX11_compares_86 rfl (fun h => ?_) (fun h => ?_)
    · have hf := itp h hf
      refine lv_iconst (v := (0 : Int32)) hx hb dX11_compares_93 (by decide) ?_
      exact zr_zretc X J (by decide) hf dX11_compares_94
    · have hf := itn h hf
      refine lv_iconst (v := (1 : Int32)) hx hb dX11_compares_89 (by decide) ?_
      refine lv_goto hx hb dX11_compares_90 rfl ?_
      exact zr_zretc X J (by decide) hf dX11_compares_94
  have hf := itn h4_ hf
  by_cases h5_ : a0_ = (18 : Int32)
  · have hf := itp h5_ hf
    rw [h5_]
    refine lv_tableIn hx hb dX11_compares_1 (by decide) (by decide) (tgt := 95) (by rfl) (by decide) ?_
    refine lv_iload_n hx hb dX11_compares_95 rfl (lv_at hl 1 rfl) ?_
    refine lv_iload_n hx hb dX11_compares_96 rfl (lv_at hl 2 rfl) ?_
    refine lv_icmp_lt hx hb dX11_compares_97 rfl (fun h => ?_) (fun h => ?_)
    · have hf := itp h hf
      refine lv_iconst (v := (0 : Int32)) hx hb dX11_compares_104 (by decide) ?_
      exact zr_zretc X J (by decide) hf dX11_compares_105
    · have hf := itn h hf
      refine lv_iconst (v := (1 : Int32)) hx hb dX11_compares_100 (by decide) ?_
      refine lv_goto hx hb dX11_compares_101 rfl ?_
      exact zr_zretc X J (by decide) hf dX11_compares_105
  have hf := itn h5_ hf
  refine lv_tableOut hx hb dX11_compares_1 (tgt := 106) (by have := lv_neT h0_ (a := 13) (by decide); have := lv_neT h1_ (a := 14) (by decide); have := lv_neT h2_ (a := 15) (by decide); have := lv_neT h3_ (a := 16) (by decide); have := lv_neT h4_ (a := 17) (by decide); have := lv_neT h5_ (a := 18) (by decide); omega) (by decide) ?_
  refine lv_iconst (v := (0 : Int32)) hx hb dX11_compares_106 (by decide) ?_
  exact zr_zretc X J (by decide) hf dX11_compares_107
set_option maxHeartbeats 4000000 in
theorem tX11_ofTwo {a0_ : Int32} {a1_ : Int32} {a2_ : Int32}  {σ u : zSt} {r : Int32} (hf : fX11_ofTwo ln N M a0_ a1_ a2_ σ = some (r, u)) : zMi l yX11_ofTwo cX11_ofTwo 3 (some .int) (1) D cy shC ad ts ln [.int a0_, .int a1_, .int a2_] σ r u := by
  refine zM_of (by decide) (Nat.le_of_ble_eq_true rfl) (fun p e s m args below meth c ls ha X J hl => ?_)
  have hx := X.1
  have hb := X.2.1
  have hl : lv_has ls 3 [(0, .int a0_), (1, .int a1_), (2, .int a2_)] := hl
  generalize s.heap = H at J ⊢
  generalize ([] : List Loc) = locs at J ⊢
  show W p l e (zRm (1)) s m args below meth c H locs 0 0 (zQi D cy shC ad ts ln below args s (r, u)) (F0 m 0 ls [])
  unfold fX11_ofTwo at hf
  refine lv_iload_n hx hb dX11_ofTwo_0 rfl (lv_at hl 0 rfl) ?_
  by_cases h0_ : a0_ = (10 : Int32)
  · have hf := itp h0_ hf
    rw [h0_]
    refine lv_tableIn hx hb dX11_ofTwo_1 (by decide) (by decide) (tgt := 92) (by rfl) (by decide) ?_
    refine lv_iload_n hx hb dX11_ofTwo_92 rfl (lv_at hl 1 rfl) ?_
    refine lv_iload_n hx hb dX11_ofTwo_93 rfl (lv_at hl 2 rfl) ?_
    refine lv_ior hx hb dX11_ofTwo_94 ?_
    exact zr_iret X J hf dX11_ofTwo_95
  have hf := itn h0_ hf
  by_cases h1_ : a0_ = (11 : Int32)
  · have hf := itp h1_ hf
    rw [h1_]
    refine lv_tableIn hx hb dX11_ofTwo_1 (by decide) (by decide) (tgt := 96) (by rfl) (by decide) ?_
    refine lv_iload_n hx hb dX11_ofTwo_96 rfl (lv_at hl 1 rfl) ?_
    refine lv_iload_n hx hb dX11_ofTwo_97 rfl (lv_at hl 2 rfl) ?_
    refine lv_ixor hx hb dX11_ofTwo_98 ?_
    exact zr_iret X J hf dX11_ofTwo_99
  have hf := itn h1_ hf
  by_cases h2_ : a0_ = (12 : Int32)
  · have hf := itp h2_ hf
    rw [h2_]
    refine lv_tableIn hx hb dX11_ofTwo_1 (by decide) (by decide) (tgt := 100) (by rfl) (by decide) ?_
    refine lv_iload_n hx hb dX11_ofTwo_100 rfl (lv_at hl 1 rfl) ?_
    refine lv_iload_n hx hb dX11_ofTwo_101 rfl (lv_at hl 2 rfl) ?_
    refine lv_iand hx hb dX11_ofTwo_102 ?_
    exact zr_iret X J hf dX11_ofTwo_103
  have hf := itn h2_ hf
  by_cases h3_ : a0_ = (13 : Int32)
  · have hf := itp h3_ hf
    rw [h3_]
    refine lv_tableIn hx hb dX11_ofTwo_1 (by decide) (by decide) (tgt := 154) (by rfl) (by decide) ?_
    refine lv_iload_n hx hb dX11_ofTwo_154 rfl (lv_at hl 0 rfl) ?_
    refine lv_iload_n hx hb dX11_ofTwo_155 rfl (lv_at hl 1 rfl) ?_
    refine lv_iload_n hx hb dX11_ofTwo_156 rfl (lv_at hl 2 rfl) ?_
    obtain ⟨r1, σ2, hc, hf⟩ := obd_some hf
    refine zr_callSi (As := [.int a0_, .int a1_, .int a2_]) (rest := []) X J yy_X11_compares mw_methodLink_TinyC_139_TinyC_compares_IIIZ (d := 0) (zR_ok (by omega) (by decide)) hl.1 rfl (Nat.le_of_ble_eq_true rfl) (tX11_compares  hc) dX11_ofTwo_157 (fun H locs J => ?_)
    refine lv_if_eq hx hb dX11_ofTwo_160 rfl (fun h => ?_) (fun h => ?_)
    · have hf := itp h hf
      refine lv_iconst (v := (0 : Int32)) hx hb dX11_ofTwo_167 (by decide) ?_
      exact zr_iret X J hf dX11_ofTwo_168
    · have hf := itn h hf
      refine lv_iconst (v := (1 : Int32)) hx hb dX11_ofTwo_163 (by decide) ?_
      refine lv_goto hx hb dX11_ofTwo_164 rfl ?_
      exact zr_iret X J hf dX11_ofTwo_168
  have hf := itn h3_ hf
  by_cases h4_ : a0_ = (14 : Int32)
  · have hf := itp h4_ hf
    rw [h4_]
    refine lv_tableIn hx hb dX11_ofTwo_1 (by decide) (by decide) (tgt := 154) (by rfl) (by decide) ?_
    refine lv_iload_n hx hb dX11_ofTwo_154 rfl (lv_at hl 0 rfl) ?_
    refine lv_iload_n hx hb dX11_ofTwo_155 rfl (lv_at hl 1 rfl) ?_
    refine lv_iload_n hx hb dX11_ofTwo_156 rfl (lv_at hl 2 rfl) ?_
    obtain ⟨r3, σ4, hc, hf⟩ := obd_some hf
    refine zr_callSi (As := [.int a0_, .int a1_, .int a2_]) (rest := []) X J yy_X11_compares mw_methodLink_TinyC_139_TinyC_compares_IIIZ (d := 0) (zR_ok (by omega) (by decide)) hl.1 rfl (Nat.le_of_ble_eq_true rfl) (tX11_compares  hc) dX11_ofTwo_157 (fun H locs J => ?_)
    refine lv_if_eq hx hb dX11_ofTwo_160 rfl (fun h => ?_) (fun h => ?_)
    · have hf := itp h hf
      refine lv_iconst (v := (0 : Int32)) hx hb dX11_ofTwo_167 (by decide) ?_
      exact zr_iret X J hf dX11_ofTwo_168
    · have hf := itn h hf
      refine lv_iconst (v := (1 : Int32)) hx hb dX11_ofTwo_163 (by decide) ?_
      refine lv_goto hx hb dX11_ofTwo_164 rfl ?_
      exact zr_iret X J hf dX11_ofTwo_168
  have hf := itn h4_ hf
  by_cases h5_ : a0_ = (15 : Int32)
  · have hf := itp h5_ hf
    rw [h5_]
    refine lv_tableIn hx hb dX11_ofTwo_1 (by decide) (by decide) (tgt := 154) (by rfl) (by decide) ?_
    refine lv_iload_n hx hb dX11_ofTwo_154 rfl (lv_at hl 0 rfl) ?_
    refine lv_iload_n hx hb dX11_ofTwo_155 rfl (lv_at hl 1 rfl) ?_
    refine lv_iload_n hx hb dX11_ofTwo_156 rfl (lv_at hl 2 rfl) ?_
    obtain ⟨r5, σ6, hc, hf⟩ := obd_some hf
    refine zr_callSi (As := [.int a0_, .int a1_, .int a2_]) (rest := []) X J yy_X11_compares mw_methodLink_TinyC_139_TinyC_compares_IIIZ (d := 0) (zR_ok (by omega) (by decide)) hl.1 rfl (Nat.le_of_ble_eq_true rfl) (tX11_compares  hc) dX11_ofTwo_157 (fun H locs J => ?_)
    refine lv_if_eq hx hb dX11_ofTwo_160 rfl (fun h => ?_) (fun h => ?_)
    · have hf := itp h hf
      refine lv_iconst (v := (0 : Int32)) hx hb dX11_ofTwo_167 (by decide) ?_
      exact zr_iret X J hf dX11_ofTwo_168
    · have hf := itn h hf
      refine lv_iconst (v := (1 : Int32)) hx hb dX11_ofTwo_163 (by decide) ?_
      refine lv_goto hx hb dX11_ofTwo_164 rfl ?_
      exact zr_iret X J hf dX11_ofTwo_168
  have hf := itn h5_ hf
  by_cases h6_ : a0_ = (16 : Int32)
  · have hf := itp h6_ hf
    rw [h6_]
    refine lv_tableIn hx hb dX11_ofTwo_1 (by decide) (by decide) (tgt := 154) (by rfl) (by decide) ?_
    refine lv_iload_n hx hb dX11_ofTwo_154 rfl (lv_at hl 0 rfl) ?_
    refine lv_iload_n hx hb dX11_ofTwo_155 rfl (lv_at hl 1 rfl) ?_
    refine lv_iload_n hx hb dX11_ofTwo_156 rfl (lv_at hl 2 rfl) ?_
    obtain ⟨r7, σ8, hc, hf⟩ := obd_some hf
    refine zr_callSi (As := [.int a0_, .int a1_, .int a2_]) (rest := []) X J yy_X11_compares mw_methodLink_TinyC_139_TinyC_compares_IIIZ (d := 0) (zR_ok (by omega) (by decide)) hl.1 rfl (Nat.le_of_ble_eq_true rfl) (tX11_compares  hc) dX11_ofTwo_157 (fun H locs J => ?_)
    refine lv_if_eq hx hb dX11_ofTwo_160 rfl (fun h => ?_) (fun h => ?_)
    · have hf := itp h hf
      refine lv_iconst (v := (0 : Int32)) hx hb dX11_ofTwo_167 (by decide) ?_
      exact zr_iret X J hf dX11_ofTwo_168
    · have hf := itn h hf
      refine lv_iconst (v := (1 : Int32)) hx hb dX11_ofTwo_163 (by decide) ?_
      refine lv_goto hx hb dX11_ofTwo_164 rfl ?_
      exact zr_iret X J hf dX11_ofTwo_168
  have hf := itn h6_ hf
  by_cases h7_ : a0_ = (17 : Int32)
  · have hf := itp h7_ hf
    rw [h7_]
    refine lv_tableIn hx hb dX11_ofTwo_1 (by decide) (by decide) (tgt := 154) (by rfl) (by decide) ?_
    refine lv_iload_n hx hb dX11_ofTwo_154 rfl (lv_at hl 0 rfl) ?_
    refine lv_iload_n hx hb dX11_ofTwo_155 rfl (lv_at hl 1 rfl) ?_
    refine lv_iload_n hx hb dX11_ofTwo_156 rfl (lv_at hl 2 rfl) ?_
    obtain ⟨r9, σ10, hc, hf⟩ := obd_some hf
    refine zr_callSi (As := [.int a0_, .int a1_, .int a2_]) (rest := []) X J yy_X11_compares mw_methodLink_TinyC_139_TinyC_compares_IIIZ (d := 0) (zR_ok (by omega) (by decide)) hl.1 rfl (Nat.le_of_ble_eq_true rfl) (tX11_compares  hc) dX11_ofTwo_157 (fun H locs J => ?_)
    refine lv_if_eq hx hb dX11_ofTwo_160 rfl (fun h => ?_) (fun h => ?_)
    · have hf := itp h hf
      refine lv_iconst (v := (0 : Int32)) hx hb dX11_ofTwo_167 (by decide) ?_
      exact zr_iret X J hf dX11_ofTwo_168
    · have hf := itn h hf
      refine lv_iconst (v := (1 : Int32)) hx hb dX11_ofTwo_163 (by decide) ?_
      refine lv_goto hx hb dX11_ofTwo_164 rfl ?_
      exact zr_iret X J hf dX11_ofTwo_168
  have hf := itn h7_ hf
  by_cases h8_ : a0_ = (18 : Int32)
  · have hf := itp h8_ hf
    rw [h8_]
    refine lv_tableIn hx hb dX11_ofTwo_1 (by decide) (by decide) (tgt := 154) (by rfl) (by decide) ?_
    refine lv_iload_n hx hb dX11_ofTwo_154 rfl (lv_at hl 0 rfl) ?_
    refine lv_iload_n hx hb dX11_ofTwo_155 rfl (lv_at hl 1 rfl) ?_
    refine lv_iload_n hx hb dX11_ofTwo_156 rfl (lv_at hl 2 rfl) ?_
    obtain ⟨r11, σ12, hc, hf⟩ := obd_some hf
    refine zr_callSi (As := [.int a0_, .int a1_, .int a2_]) (rest := []) X J yy_X11_compares mw_methodLink_TinyC_139_TinyC_compares_IIIZ (d := 0) (zR_ok (by omega) (by decide)) hl.1 rfl (Nat.le_of_ble_eq_true rfl) (tX11_compares  hc) dX11_ofTwo_157 (fun H locs J => ?_)
    refine lv_if_eq hx hb dX11_ofTwo_160 rfl (fun h => ?_) (fun h => ?_)
    · have hf := itp h hf
      refine lv_iconst (v := (0 : Int32)) hx hb dX11_ofTwo_167 (by decide) ?_
      exact zr_iret X J hf dX11_ofTwo_168
    · have hf := itn h hf
      refine lv_iconst (v := (1 : Int32)) hx hb dX11_ofTwo_163 (by decide) ?_
      refine lv_goto hx hb dX11_ofTwo_164 rfl ?_
      exact zr_iret X J hf dX11_ofTwo_168
  have hf := itn h8_ hf
  by_cases h9_ : a0_ = (19 : Int32)
  · have hf := itp h9_ hf
    rw [h9_]
    refine lv_tableIn hx hb dX11_ofTwo_1 (by decide) (by decide) (tgt := 104) (by rfl) (by decide) ?_
    refine lv_iload_n hx hb dX11_ofTwo_104 rfl (lv_at hl 1 rfl) ?_
    refine lv_iload_n hx hb dX11_ofTwo_105 rfl (lv_at hl 2 rfl) ?_
    refine lv_bipush (v := (31 : Int32)) hx hb dX11_ofTwo_106 (by decide) ?_
    refine lv_iand hx hb dX11_ofTwo_108 ?_
    refine lv_ishl hx hb dX11_ofTwo_109 ?_
    exact zr_iret X J hf dX11_ofTwo_110
  have hf := itn h9_ hf
  by_cases h10_ : a0_ = (20 : Int32)
  · have hf := itp h10_ hf
    rw [h10_]
    refine lv_tableIn hx hb dX11_ofTwo_1 (by decide) (by decide) (tgt := 111) (by rfl) (by decide) ?_
    refine lv_iload_n hx hb dX11_ofTwo_111 rfl (lv_at hl 1 rfl) ?_
    refine lv_iload_n hx hb dX11_ofTwo_112 rfl (lv_at hl 2 rfl) ?_
    refine lv_bipush (v := (31 : Int32)) hx hb dX11_ofTwo_113 (by decide) ?_
    refine lv_iand hx hb dX11_ofTwo_115 ?_
    refine lv_ishr hx hb dX11_ofTwo_116 ?_
    exact zr_iret X J hf dX11_ofTwo_117
  have hf := itn h10_ hf
  by_cases h11_ : a0_ = (21 : Int32)
  · have hf := itp h11_ hf
    rw [h11_]
    refine lv_tableIn hx hb dX11_ofTwo_1 (by decide) (by decide) (tgt := 118) (by rfl) (by decide) ?_
    refine lv_iload_n hx hb dX11_ofTwo_118 rfl (lv_at hl 1 rfl) ?_
    refine lv_iload_n hx hb dX11_ofTwo_119 rfl (lv_at hl 2 rfl) ?_
    refine lv_iadd hx hb dX11_ofTwo_120 ?_
    exact zr_iret X J hf dX11_ofTwo_121
  have hf := itn h11_ hf
  by_cases h12_ : a0_ = (22 : Int32)
  · have hf := itp h12_ hf
    rw [h12_]
    refine lv_tableIn hx hb dX11_ofTwo_1 (by decide) (by decide) (tgt := 122) (by rfl) (by decide) ?_
    refine lv_iload_n hx hb dX11_ofTwo_122 rfl (lv_at hl 1 rfl) ?_
    refine lv_iload_n hx hb dX11_ofTwo_123 rfl (lv_at hl 2 rfl) ?_
    refine lv_isub hx hb dX11_ofTwo_124 ?_
    exact zr_iret X J hf dX11_ofTwo_125
  have hf := itn h12_ hf
  by_cases h13_ : a0_ = (23 : Int32)
  · have hf := itp h13_ hf
    rw [h13_]
    refine lv_tableIn hx hb dX11_ofTwo_1 (by decide) (by decide) (tgt := 126) (by rfl) (by decide) ?_
    refine lv_iload_n hx hb dX11_ofTwo_126 rfl (lv_at hl 1 rfl) ?_
    refine lv_iload_n hx hb dX11_ofTwo_127 rfl (lv_at hl 2 rfl) ?_
    refine lv_imul hx hb dX11_ofTwo_128 ?_
    exact zr_iret X J hf dX11_ofTwo_129
  have hf := itn h13_ hf
  by_cases h14_ : a0_ = (24 : Int32)
  · have hf := itp h14_ hf
    rw [h14_]
    refine lv_tableIn hx hb dX11_ofTwo_1 (by decide) (by decide) (tgt := 154) (by rfl) (by decide) ?_
    refine lv_iload_n hx hb dX11_ofTwo_154 rfl (lv_at hl 0 rfl) ?_
    refine lv_iload_n hx hb dX11_ofTwo_155 rfl (lv_at hl 1 rfl) ?_
    refine lv_iload_n hx hb dX11_ofTwo_156 rfl (lv_at hl 2 rfl) ?_
    obtain ⟨r13, σ14, hc, hf⟩ := obd_some hf
    refine zr_callSi (As := [.int a0_, .int a1_, .int a2_]) (rest := []) X J yy_X11_compares mw_methodLink_TinyC_139_TinyC_compares_IIIZ (d := 0) (zR_ok (by omega) (by decide)) hl.1 rfl (Nat.le_of_ble_eq_true rfl) (tX11_compares  hc) dX11_ofTwo_157 (fun H locs J => ?_)
    refine lv_if_eq hx hb dX11_ofTwo_160 rfl (fun h => ?_) (fun h => ?_)
    · have hf := itp h hf
      refine lv_iconst (v := (0 : Int32)) hx hb dX11_ofTwo_167 (by decide) ?_
      exact zr_iret X J hf dX11_ofTwo_168
    · have hf := itn h hf
      refine lv_iconst (v := (1 : Int32)) hx hb dX11_ofTwo_163 (by decide) ?_
      refine lv_goto hx hb dX11_ofTwo_164 rfl ?_
      exact zr_iret X J hf dX11_ofTwo_168
  have hf := itn h14_ hf
  by_cases h15_ : a0_ = (25 : Int32)
  · have hf := itp h15_ hf
    rw [h15_]
    refine lv_tableIn hx hb dX11_ofTwo_1 (by decide) (by decide) (tgt := 154) (by rfl) (by decide) ?_
    refine lv_iload_n hx hb dX11_ofTwo_154 rfl (lv_at hl 0 rfl) ?_
    refine lv_iload_n hx hb dX11_ofTwo_155 rfl (lv_at hl 1 rfl) ?_
    refine lv_iload_n hx hb dX11_ofTwo_156 rfl (lv_at hl 2 rfl) ?_
    obtain ⟨r15, σ16, hc, hf⟩ := obd_some hf
    refine zr_callSi (As := [.int a0_, .int a1_, .int a2_]) (rest := []) X J yy_X11_compares mw_methodLink_TinyC_139_TinyC_compares_IIIZ (d := 0) (zR_ok (by omega) (by decide)) hl.1 rfl (Nat.le_of_ble_eq_true rfl) (tX11_compares  hc) dX11_ofTwo_157 (fun H locs J => ?_)
    refine lv_if_eq hx hb dX11_ofTwo_160 rfl (fun h => ?_) (fun h => ?_)
    · have hf := itp h hf
      refine lv_iconst (v := (0 : Int32)) hx hb dX11_ofTwo_167 (by decide) ?_
      exact zr_iret X J hf dX11_ofTwo_168
    · have hf := itn h hf
      refine lv_iconst (v := (1 : Int32)) hx hb dX11_ofTwo_163 (by decide) ?_
      refine lv_goto hx hb dX11_ofTwo_164 rfl ?_
      exact zr_iret X J hf dX11_ofTwo_168
  have hf := itn h15_ hf
  by_cases h16_ : a0_ = (26 : Int32)
  · have hf := itp h16_ hf
    rw [h16_]
    refine lv_tableIn hx hb dX11_ofTwo_1 (by decide) (by decide) (tgt := 154) (by rfl) (by decide) ?_
    refine lv_iload_n hx hb dX11_ofTwo_154 rfl (lv_at hl 0 rfl) ?_
    refine lv_iload_n hx hb dX11_ofTwo_155 rfl (lv_at hl 1 rfl) ?_
    refine lv_iload_n hx hb dX11_ofTwo_156 rfl (lv_at hl 2 rfl) ?_
    obtain ⟨r17, σ18, hc, hf⟩ := obd_some hf
    refine zr_callSi (As := [.int a0_, .int a1_, .int a2_]) (rest := []) X J yy_X11_compares mw_methodLink_TinyC_139_TinyC_compares_IIIZ (d := 0) (zR_ok (by omega) (by decide)) hl.1 rfl (Nat.le_of_ble_eq_true rfl) (tX11_compares  hc) dX11_ofTwo_157 (fun H locs J => ?_)
    refine lv_if_eq hx hb dX11_ofTwo_160 rfl (fun h => ?_) (fun h => ?_)
    · have hf := itp h hf
      refine lv_iconst (v := (0 : Int32)) hx hb dX11_ofTwo_167 (by decide) ?_
      exact zr_iret X J hf dX11_ofTwo_168
    · have hf := itn h hf
      refine lv_iconst (v := (1 : Int32)) hx hb dX11_ofTwo_163 (by decide) ?_
      refine lv_goto hx hb dX11_ofTwo_164 rfl ?_
      exact zr_iret X J hf dX11_ofTwo_168
  have hf := itn h16_ hf
  by_cases h17_ : a0_ = (27 : Int32)
  · have hf := itp h17_ hf
    rw [h17_]
    refine lv_tableIn hx hb dX11_ofTwo_1 (by decide) (by decide) (tgt := 130) (by rfl) (by decide) ?_
    refine lv_iload_n hx hb dX11_ofTwo_130 rfl (lv_at hl 2 rfl) ?_
    refine lv_if_ne hx hb dX11_ofTwo_131 rfl (fun h => ?_) (fun h => ?_)
    · have hf := itn h hf
      refine lv_iload_n hx hb dX11_ofTwo_138 rfl (lv_at hl 1 rfl) ?_
      refine lv_iload_n hx hb dX11_ofTwo_139 rfl (lv_at hl 2 rfl) ?_
      obtain ⟨h0, hf⟩ := itx hf
      refine lv_idiv hx hb dX11_ofTwo_140 h0 ?_
      exact zr_iret X J hf dX11_ofTwo_141
    · have hf := itp h hf
      refine lv_iconst (v := (0 : Int32)) hx hb dX11_ofTwo_134 (by decide) ?_
      refine lv_goto hx hb dX11_ofTwo_135 rfl ?_
      exact zr_iret X J hf dX11_ofTwo_141
  have hf := itn h17_ hf
  by_cases h18_ : a0_ = (28 : Int32)
  · have hf := itp h18_ hf
    rw [h18_]
    refine lv_tableIn hx hb dX11_ofTwo_1 (by decide) (by decide) (tgt := 142) (by rfl) (by decide) ?_
    refine lv_iload_n hx hb dX11_ofTwo_142 rfl (lv_at hl 2 rfl) ?_
    refine lv_if_ne hx hb dX11_ofTwo_143 rfl (fun h => ?_) (fun h => ?_)
    · have hf := itn h hf
      refine lv_iload_n hx hb dX11_ofTwo_150 rfl (lv_at hl 1 rfl) ?_
      refine lv_iload_n hx hb dX11_ofTwo_151 rfl (lv_at hl 2 rfl) ?_
      obtain ⟨h0, hf⟩ := itx hf
      refine lv_irem hx hb dX11_ofTwo_152 h0 ?_
      exact zr_iret X J hf dX11_ofTwo_153
    · have hf := itp h hf
      refine lv_iconst (v := (0 : Int32)) hx hb dX11_ofTwo_146 (by decide) ?_
      refine lv_goto hx hb dX11_ofTwo_147 rfl ?_
      exact zr_iret X J hf dX11_ofTwo_153
  have hf := itn h18_ hf
  refine lv_tableOut hx hb dX11_ofTwo_1 (tgt := 154) (by have := lv_neT h0_ (a := 10) (by decide); have := lv_neT h1_ (a := 11) (by decide); have := lv_neT h2_ (a := 12) (by decide); have := lv_neT h3_ (a := 13) (by decide); have := lv_neT h4_ (a := 14) (by decide); have := lv_neT h5_ (a := 15) (by decide); have := lv_neT h6_ (a := 16) (by decide); have := lv_neT h7_ (a := 17) (by decide); have := lv_neT h8_ (a := 18) (by decide); have := lv_neT h9_ (a := 19) (by decide); have := lv_neT h10_ (a := 20) (by decide); have := lv_neT h11_ (a := 21) (by decide); have := lv_neT h12_ (a := 22) (by decide); have := lv_neT h13_ (a := 23) (by decide); have := lv_neT h14_ (a := 24) (by decide); have := lv_neT h15_ (a := 25) (by decide); have := lv_neT h16_ (a := 26) (by decide); have := lv_neT h17_ (a := 27) (by decide); have := lv_neT h18_ (a := 28) (by decide); omega) (by decide) ?_
  refine lv_iload_n hx hb dX11_ofTwo_154 rfl (lv_at hl 0 rfl) ?_
  refine lv_iload_n hx hb dX11_ofTwo_155 rfl (lv_at hl 1 rfl) ?_
  refine lv_iload_n hx hb dX11_ofTwo_156 rfl (lv_at hl 2 rfl) ?_
  obtain ⟨r19, σ20, hc, hf⟩ := obd_some hf
  refine zr_callSi (As := [.int a0_, .int a1_, .int a2_]) (rest := []) X J yy_X11_compares mw_methodLink_TinyC_139_TinyC_compares_IIIZ (d := 0) (zR_ok (by omega) (by decide)) hl.1 rfl (Nat.le_of_ble_eq_true rfl) (tX11_compares  hc) dX11_ofTwo_157 (fun H locs J => ?_)
  refine lv_if_eq hx hb dX11_ofTwo_160 rfl (fun h => ?_) (fun h => ?_)
  · have hf := itp h hf
    refine lv_iconst (v := (0 : Int32)) hx hb dX11_ofTwo_167 (by decide) ?_
    exact zr_iret X J hf dX11_ofTwo_168
  · have hf := itn h hf
    refine lv_iconst (v := (1 : Int32)) hx hb dX11_ofTwo_163 (by decide) ?_
    refine lv_goto hx hb dX11_ofTwo_164 rfl ?_
    exact zr_iret X J hf dX11_ofTwo_168
set_option maxHeartbeats 4000000 in
theorem tX3_join {a1_ : Int32}  {σ u : zSt} {r : Unit} (hf : fX3_join ln N M a1_ σ = some (r, u)) : zMv l yX3_join cX3_join 4 none (2) D cy shC ad ts ln [.ref (ad 7), .int a1_] σ u := by
  refine zM_of (by decide) (Nat.le_of_ble_eq_true rfl) (fun p e s m args below meth c ls ha X J hl => ?_)
  have hx := X.1
  have hb := X.2.1
  have hl : lv_has ls 4 [(0, .ref (ad 7)), (1, .int a1_)] := hl
  generalize s.heap = H at J ⊢
  generalize ([] : List Loc) = locs at J ⊢
  show W p l e (zRm (2)) s m args below meth c H locs 0 0 (zQv D cy shC ad ts ln below args s (r, u)) (F0 m 0 ls [])
  unfold fX3_join at hf
  refine lv_aload_n hx hb dX3_join_0 rfl (lv_at hl 0 rfl) ?_
  obtain ⟨r1, σ2, hc, hf⟩ := obd_some hf
  refine zr_calli (As := []) (rest := []) X J 7 ho_C_X3.1 ho_C_X3.2.1 ho_C_X3.2.2 yy_X3_pop mw_methodLink_TinyCMachine_61_TinyCMachine_pop_I (d := 1) (zR_ok (by omega) (by decide)) hl.1 rfl (Nat.le_of_ble_eq_true rfl) (tX3_pop  hc) dX3_join_1 (fun H locs J => ?_)
  refine lv_istore_n hx hb dX3_join_4 rfl hl (by decide) rfl (fun ls hl => ?_)
  have hl : lv_has ls 4 [(2, .int r1), (0, .ref (ad 7)), (1, .int a1_)] := hl
  refine lv_aload_n hx hb dX3_join_5 rfl (lv_at hl 1 rfl) ?_
  obtain ⟨r3, σ4, hc, hf⟩ := obd_some hf
  refine zr_calli (As := []) (rest := []) X J 7 ho_C_X3.1 ho_C_X3.2.1 ho_C_X3.2.2 yy_X3_pop mw_methodLink_TinyCMachine_61_TinyCMachine_pop_I (d := 1) (zR_ok (by omega) (by decide)) hl.1 rfl (Nat.le_of_ble_eq_true rfl) (tX3_pop  hc) dX3_join_6 (fun H locs J => ?_)
  refine lv_istore_n hx hb dX3_join_9 rfl hl (by decide) rfl (fun ls hl => ?_)
  have hl : lv_has ls 4 [(3, .int r3), (2, .int r1), (0, .ref (ad 7)), (1, .int a1_)] := hl
  refine lv_iload_n hx hb dX3_join_10 rfl (lv_at hl 3 rfl) ?_
  refine lv_iload_n hx hb dX3_join_11 rfl (lv_at hl 1 rfl) ?_
  obtain ⟨r5, σ6, hc, hf⟩ := obd_some hf
  refine zr_callTi (As := [.int a1_, .int r1]) (rest := []) X J yy_X11_dividesByZero mw_methodLinkNest_TinyCMachine_85_TinyC_dividesByZero_IIZ_TinyC (d := 0) (zR_ok (by omega) (by decide)) hl.1 rfl (Nat.le_of_ble_eq_true rfl) (tX11_dividesByZero  hc) dX3_join_12 (fun H locs J => ?_)
  refine lv_if_eq hx hb dX3_join_15 rfl (fun h => ?_) (fun h => ?_)
  · have hf := itp h hf
    refine lv_aload_n hx hb dX3_join_26 rfl (lv_at hl 2 rfl) ?_
    refine lv_iload_n hx hb dX3_join_27 rfl (lv_at hl 3 rfl) ?_
    refine lv_iload_n hx hb dX3_join_28 rfl (lv_at hl 0 rfl) ?_
    refine lv_iload_n hx hb dX3_join_29 rfl (lv_at hl 1 rfl) ?_
    obtain ⟨r7, σ8, hc, hf⟩ := obd_some hf
    refine zr_callTi (As := [.int a1_, .int r3, .int r1]) (rest := [.ref (ad 7)]) X J yy_X11_ofTwo mw_methodLinkNest_TinyCMachine_89_TinyC_ofTwo_IIII_TinyC (d := 1) (zR_ok (by omega) (by decide)) hl.1 rfl (Nat.le_of_ble_eq_true rfl) (tX11_ofTwo  hc) dX3_join_30 (fun H locs J => ?_)
    obtain ⟨r9, σ10, hc, hf⟩ := obd_some hf
    refine zr_callv (As := [.int r7]) (rest := []) X J 7 ho_C_X3.1 ho_C_X3.2.1 ho_C_X3.2.2 yy_X3_push mw_methodLink_TinyCMachine_69_TinyCMachine_push_IV (d := 0) (zR_ok (by omega) (by decide)) hl.1 rfl (Nat.le_of_ble_eq_true rfl) (tX3_push  hc) dX3_join_33 (fun H locs J => ?_)
    exact zr_vret X J hf dX3_join_36
  · have hf := itn h hf
    refine lv_aload_n hx hb dX3_join_18 rfl (lv_at hl 2 rfl) ?_
    refine lv_iconst (v := (2 : Int32)) hx hb dX3_join_19 (by decide) ?_
    refine pf_X3_45 X J dX3_join_20 (fun σ11 H locs eq J => ?_)
    have hf := bnd_eq eq hf
    clear eq
    refine lv_goto hx hb dX3_join_23 rfl ?_
    exact zr_vret X J hf dX3_join_36
set_option maxHeartbeats 4000000 in
theorem tX3_next   {σ u : zSt} {r : Int32} (hf : fX3_next ln N M  σ = some (r, u)) : zMi l yX3_next cX3_next 1 (some .int) (1) D cy shC ad ts ln [.ref (ad 7)] σ r u := by
  refine zM_of (by decide) (Nat.le_of_ble_eq_true rfl) (fun p e s m args below meth c ls ha X J hl => ?_)
  have hx := X.1
  have hb := X.2.1
  have hl : lv_has ls 1 [(0, .ref (ad 7))] := hl
  generalize s.heap = H at J ⊢
  generalize ([] : List Loc) = locs at J ⊢
  show W p l e (zRm (1)) s m args below meth c H locs 0 0 (zQi D cy shC ad ts ln below args s (r, u)) (F0 m 0 ls [])
  unfold fX3_next at hf
  refine lv_aload_n hx hb dX3_next_0 rfl (lv_at hl 0 rfl) ?_
  refine lv_dup hx hb dX3_next_1 rfl ?_
  refine gf_X3_32 X J dX3_next_2 ?_
  refine lv_iconst (v := (1 : Int32)) hx hb dX3_next_5 (by decide) ?_
  refine lv_iadd hx hb dX3_next_6 ?_
  refine pf_X3_32 X J dX3_next_7 (fun σ1 H locs eq J => ?_)
  have hf := bnd_eq eq hf
  clear eq
  refine lv_aload_n hx hb dX3_next_10 rfl (lv_at hl 0 rfl) ?_
  obtain ⟨q2, hq2, er, hf⟩ := rbd_some hf
  refine gf_X3_25 X J er dX3_next_11 ?_
  refine lv_aload_n hx hb dX3_next_14 rfl (lv_at hl 0 rfl) ?_
  refine gf_X3_32 X J dX3_next_15 ?_
  refine lv_iconst (v := (1 : Int32)) hx hb dX3_next_18 (by decide) ?_
  refine lv_isub hx hb dX3_next_19 ?_
  obtain ⟨r3, σ4, hc, hf⟩ := obd_some hf
  refine zr_callNi (As := [.int ((zI σ1 7 3) - (1 : Int32))]) (rest := []) X J q2 (ho_C_X0 hq2).1 (ho_C_X0 hq2).2.1 (ho_C_X0 hq2).2.2 yy_X0_at mw_methodLinkNest_TinyCMachine_55_TinyCCode_at_II_TinyC (d := 0) (zR_ok (by omega) (by decide)) hl.1 rfl (Nat.le_of_ble_eq_true rfl) (tX0_at hq2 hc) dX3_next_20 (fun H locs J => ?_)
  exact zr_iret X J hf dX3_next_23
set_option maxHeartbeats 4000000 in
theorem tX3_call {a1_ : Int32}  {σ u : zSt} {r : Unit} (hf : fX3_call ln N M a1_ σ = some (r, u)) : zMv l yX3_call cX3_call 2 none (1) D cy shC ad ts ln [.ref (ad 7), .int a1_] σ u := by
  refine zM_of (by decide) (Nat.le_of_ble_eq_true rfl) (fun p e s m args below meth c ls ha X J hl => ?_)
  have hx := X.1
  have hb := X.2.1
  have hl : lv_has ls 2 [(0, .ref (ad 7)), (1, .int a1_)] := hl
  generalize s.heap = H at J ⊢
  generalize ([] : List Loc) = locs at J ⊢
  show W p l e (zRm (1)) s m args below meth c H locs 0 0 (zQv D cy shC ad ts ln below args s (r, u)) (F0 m 0 ls [])
  unfold fX3_call at hf
  refine lv_aload_n hx hb dX3_call_0 rfl (lv_at hl 0 rfl) ?_
  refine lv_dup hx hb dX3_call_1 rfl ?_
  refine gf_X3_32 X J dX3_call_2 ?_
  refine lv_iconst (v := (1 : Int32)) hx hb dX3_call_5 (by decide) ?_
  refine lv_iadd hx hb dX3_call_6 ?_
  refine pf_X3_32 X J dX3_call_7 (fun σ1 H locs eq J => ?_)
  have hf := bnd_eq eq hf
  clear eq
  refine lv_aload_n hx hb dX3_call_10 rfl (lv_at hl 0 rfl) ?_
  refine gf_X3_39 X J dX3_call_11 ?_
  refine lv_aload_n hx hb dX3_call_14 rfl (lv_at hl 0 rfl) ?_
  refine gf_X3_9 X J dX3_call_15 ?_
  refine an_X3_X3f0 X J dX3_call_18 ?_
  refine lv_iconst (v := (2 : Int32)) hx hb dX3_call_19 (by decide) ?_
  refine lv_isub hx hb dX3_call_20 ?_
  refine lv_icmp_le hx hb dX3_call_21 rfl (fun h => ?_) (fun h => ?_)
  · have hf := itp h hf
    refine lv_aload_n hx hb dX3_call_30 rfl (lv_at hl 0 rfl) ?_
    refine lv_aload_n hx hb dX3_call_31 rfl (lv_at hl 0 rfl) ?_
    refine gf_X3_32 X J dX3_call_32 ?_
    obtain ⟨r2, σ3, hc, hf⟩ := obd_some hf
    refine zr_callv (As := [.int (zI σ1 7 3)]) (rest := []) X J 7 ho_C_X3.1 ho_C_X3.2.1 ho_C_X3.2.2 yy_X3_push mw_methodLink_TinyCMachine_69_TinyCMachine_push_IV (d := 0) (zR_ok (by omega) (by decide)) hl.1 rfl (Nat.le_of_ble_eq_true rfl) (tX3_push  hc) dX3_call_35 (fun H locs J => ?_)
    refine lv_aload_n hx hb dX3_call_38 rfl (lv_at hl 0 rfl) ?_
    refine lv_aload_n hx hb dX3_call_39 rfl (lv_at hl 0 rfl) ?_
    refine gf_X3_42 X J dX3_call_40 ?_
    obtain ⟨r4, σ5, hc, hf⟩ := obd_some hf
    refine zr_callv (As := [.int (zI σ3 7 5)]) (rest := []) X J 7 ho_C_X3.1 ho_C_X3.2.1 ho_C_X3.2.2 yy_X3_push mw_methodLink_TinyCMachine_69_TinyCMachine_push_IV (d := 0) (zR_ok (by omega) (by decide)) hl.1 rfl (Nat.le_of_ble_eq_true rfl) (tX3_push  hc) dX3_call_43 (fun H locs J => ?_)
    refine lv_aload_n hx hb dX3_call_46 rfl (lv_at hl 0 rfl) ?_
    refine lv_aload_n hx hb dX3_call_47 rfl (lv_at hl 0 rfl) ?_
    refine gf_X3_39 X J dX3_call_48 ?_
    refine pf_X3_42 X J dX3_call_51 (fun σ6 H locs eq J => ?_)
    have hf := bnd_eq eq hf
    clear eq
    refine lv_aload_n hx hb dX3_call_54 rfl (lv_at hl 0 rfl) ?_
    refine lv_iload_n hx hb dX3_call_55 rfl (lv_at hl 1 rfl) ?_
    refine pf_X3_32 X J dX3_call_56 (fun σ7 H locs eq J => ?_)
    have hf := bnd_eq eq hf
    clear eq
    exact zr_vret X J hf dX3_call_59
  · have hf := itn h hf
    refine lv_aload_n hx hb dX3_call_24 rfl (lv_at hl 0 rfl) ?_
    refine lv_iconst (v := (4 : Int32)) hx hb dX3_call_25 (by decide) ?_
    refine pf_X3_45 X J dX3_call_26 (fun σ8 H locs eq J => ?_)
    have hf := bnd_eq eq hf
    clear eq
    exact zr_vret X J hf dX3_call_29
set_option maxHeartbeats 4000000 in
theorem tX3_leave {a1_ : Int32}  {σ u : zSt} {r : Unit} (hf : fX3_leave ln N M a1_ σ = some (r, u)) : zMv l yX3_leave cX3_leave 4 none (2) D cy shC ad ts ln [.ref (ad 7), .int a1_] σ u := by
  refine zM_of (by decide) (Nat.le_of_ble_eq_true rfl) (fun p e s m args below meth c ls ha X J hl => ?_)
  have hx := X.1
  have hb := X.2.1
  have hl : lv_has ls 4 [(0, .ref (ad 7)), (1, .int a1_)] := hl
  generalize s.heap = H at J ⊢
  generalize ([] : List Loc) = locs at J ⊢
  show W p l e (zRm (2)) s m args below meth c H locs 0 0 (zQv D cy shC ad ts ln below args s (r, u)) (F0 m 0 ls [])
  unfold fX3_leave at hf
  refine lv_aload_n hx hb dX3_leave_0 rfl (lv_at hl 0 rfl) ?_
  obtain ⟨r1, σ2, hc, hf⟩ := obd_some hf
  refine zr_calli (As := []) (rest := []) X J 7 ho_C_X3.1 ho_C_X3.2.1 ho_C_X3.2.2 yy_X3_pop mw_methodLink_TinyCMachine_61_TinyCMachine_pop_I (d := 1) (zR_ok (by omega) (by decide)) hl.1 rfl (Nat.le_of_ble_eq_true rfl) (tX3_pop  hc) dX3_leave_1 (fun H locs J => ?_)
  refine lv_istore_n hx hb dX3_leave_4 rfl hl (by decide) rfl (fun ls hl => ?_)
  have hl : lv_has ls 4 [(2, .int r1), (0, .ref (ad 7)), (1, .int a1_)] := hl
  refine lv_aload_n hx hb dX3_leave_5 rfl (lv_at hl 1 rfl) ?_
  refine gf_X3_42 X J dX3_leave_6 ?_
  refine lv_topi (fun x3 eq => ?_)
  have hf := bnd_eq eq hf
  clear eq
  refine lv_istore_n hx hb dX3_leave_9 rfl hl (by decide) rfl (fun ls hl => ?_)
  have hl : lv_has ls 4 [(3, .int x3), (2, .int r1), (0, .ref (ad 7)), (1, .int a1_)] := hl
  refine lv_aload_n hx hb dX3_leave_10 rfl (lv_at hl 2 rfl) ?_
  refine lv_iload_n hx hb dX3_leave_11 rfl (lv_at hl 0 rfl) ?_
  refine lv_iconst (v := (2 : Int32)) hx hb dX3_leave_12 (by decide) ?_
  refine lv_isub hx hb dX3_leave_13 ?_
  refine lv_iload_n hx hb dX3_leave_14 rfl (lv_at hl 3 rfl) ?_
  refine lv_isub hx hb dX3_leave_15 ?_
  refine pf_X3_39 X J dX3_leave_16 (fun σ4 H locs eq J => ?_)
  have hf := bnd_eq eq hf
  clear eq
  refine lv_aload_n hx hb dX3_leave_19 rfl (lv_at hl 2 rfl) ?_
  refine lv_aload_n hx hb dX3_leave_20 rfl (lv_at hl 2 rfl) ?_
  refine lv_iload_n hx hb dX3_leave_21 rfl (lv_at hl 0 rfl) ?_
  refine lv_iconst (v := (2 : Int32)) hx hb dX3_leave_22 (by decide) ?_
  refine lv_isub hx hb dX3_leave_23 ?_
  obtain ⟨r5, σ6, hc, hf⟩ := obd_some hf
  refine zr_calli (As := [.int (x3 - (2 : Int32))]) (rest := [.ref (ad 7)]) X J 7 ho_C_X3.1 ho_C_X3.2.1 ho_C_X3.2.2 yy_X3_load mw_methodLink_TinyCMachine_82_TinyCMachine_load_II (d := 0) (zR_ok (by omega) (by decide)) hl.1 rfl (Nat.le_of_ble_eq_true rfl) (tX3_load  hc) dX3_leave_24 (fun H locs J => ?_)
  refine pf_X3_32 X J dX3_leave_27 (fun σ7 H locs eq J => ?_)
  have hf := bnd_eq eq hf
  clear eq
  refine lv_aload_n hx hb dX3_leave_30 rfl (lv_at hl 2 rfl) ?_
  refine lv_aload_n hx hb dX3_leave_31 rfl (lv_at hl 2 rfl) ?_
  refine lv_iload_n hx hb dX3_leave_32 rfl (lv_at hl 0 rfl) ?_
  refine lv_iconst (v := (1 : Int32)) hx hb dX3_leave_33 (by decide) ?_
  refine lv_isub hx hb dX3_leave_34 ?_
  obtain ⟨r8, σ9, hc, hf⟩ := obd_some hf
  refine zr_calli (As := [.int (x3 - (1 : Int32))]) (rest := [.ref (ad 7)]) X J 7 ho_C_X3.1 ho_C_X3.2.1 ho_C_X3.2.2 yy_X3_load mw_methodLink_TinyCMachine_82_TinyCMachine_load_II (d := 0) (zR_ok (by omega) (by decide)) hl.1 rfl (Nat.le_of_ble_eq_true rfl) (tX3_load  hc) dX3_leave_35 (fun H locs J => ?_)
  refine pf_X3_42 X J dX3_leave_38 (fun σ10 H locs eq J => ?_)
  have hf := bnd_eq eq hf
  clear eq
  refine lv_aload_n hx hb dX3_leave_41 rfl (lv_at hl 2 rfl) ?_
  refine lv_iload_n hx hb dX3_leave_42 rfl (lv_at hl 1 rfl) ?_
  obtain ⟨r11, σ12, hc, hf⟩ := obd_some hf
  refine zr_callv (As := [.int r1]) (rest := []) X J 7 ho_C_X3.1 ho_C_X3.2.1 ho_C_X3.2.2 yy_X3_push mw_methodLink_TinyCMachine_69_TinyCMachine_push_IV (d := 0) (zR_ok (by omega) (by decide)) hl.1 rfl (Nat.le_of_ble_eq_true rfl) (tX3_push  hc) dX3_leave_43 (fun H locs J => ?_)
  exact zr_vret X J hf dX3_leave_46
set_option maxHeartbeats 4000000 in
theorem tX8_putOutput {a1_ : Int32}  {σ u : zSt} {r : Int32} (hf : fX8_putOutput ln N M a1_ σ = some (r, u)) : zMi l yX8_putOutput cX8_putOutput 2 (some .boolean) (0) D cy shC ad ts ln [.ref (ad 6), .int a1_] σ r u := by
  refine zM_of (by decide) (Nat.le_of_ble_eq_true rfl) (fun p e s m args below meth c ls ha X J hl => ?_)
  have hx := X.1
  have hb := X.2.1
  have hl : lv_has ls 2 [(0, .ref (ad 6)), (1, .int a1_)] := hl
  generalize s.heap = H at J ⊢
  generalize ([] : List Loc) = locs at J ⊢
  show W p l e (zRm (0)) s m args below meth c H locs 0 0 (zQi D cy shC ad ts ln below args s (r, u)) (F0 m 0 ls [])
  unfold fX8_putOutput at hf
  refine lv_aload_n hx hb dX8_putOutput_0 rfl (lv_at hl 0 rfl) ?_
  refine gf_X8_23 X J dX8_putOutput_1 ?_
  refine lv_aload_n hx hb dX8_putOutput_4 rfl (lv_at hl 0 rfl) ?_
  refine gf_X8_13 X J dX8_putOutput_5 ?_
  refine an_X8_X8f1 X J dX8_putOutput_8 ?_
  refine lv_icmp_lt hx hb dX8_putOutput_9 rfl (fun h => ?_) (fun h => ?_)
  · have hf := itp h hf
    refine lv_aload_n hx hb dX8_putOutput_14 rfl (lv_at hl 0 rfl) ?_
    refine gf_X8_13 X J dX8_putOutput_15 ?_
    refine lv_aload_n hx hb dX8_putOutput_18 rfl (lv_at hl 0 rfl) ?_
    refine gf_X8_23 X J dX8_putOutput_19 ?_
    refine lv_iload_n hx hb dX8_putOutput_22 rfl (lv_at hl 1 rfl) ?_
    obtain ⟨hin, hf⟩ := itx hf
    refine as_X8_X8f1 X J hin dX8_putOutput_23 (fun σ1 H locs eq J => ?_)
    have hf := bnd_eq eq hf
    clear eq
    refine lv_aload_n hx hb dX8_putOutput_24 rfl (lv_at hl 0 rfl) ?_
    refine lv_dup hx hb dX8_putOutput_25 rfl ?_
    refine gf_X8_23 X J dX8_putOutput_26 ?_
    refine lv_iconst (v := (1 : Int32)) hx hb dX8_putOutput_29 (by decide) ?_
    refine lv_iadd hx hb dX8_putOutput_30 ?_
    refine pf_X8_23 X J dX8_putOutput_31 (fun σ2 H locs eq J => ?_)
    have hf := bnd_eq eq hf
    clear eq
    refine lv_iconst (v := (1 : Int32)) hx hb dX8_putOutput_34 (by decide) ?_
    exact zr_zretc X J (by decide) hf dX8_putOutput_35
  · have hf := itn h hf
    refine lv_iconst (v := (0 : Int32)) hx hb dX8_putOutput_12 (by decide) ?_
    exact zr_zretc X J (by decide) hf dX8_putOutput_13
set_option maxHeartbeats 4000000 in
theorem bX3_comeOut_21 {o : Unit × zSt} (X : zX p s m args meth c D cy shC ad ts cX3_comeOut 2 none RX3)  {s0_ : Int32}  {σ : zSt} {H : Heap} {locs : List Loc} {ls : Array Slot} (J : zJ D cy shC ad ln s σ H locs) (hl : lv_has ls 2 []) (hf : fX3_comeOut_b21 ln N M  s0_ σ = some o) : W p l e (zRm (2)) s m args below meth c H locs 0 0 (zQv D cy shC ad ts ln below args s o) (F0 m 21 ls [.int s0_, .ref (ad 7)]) := by
  have hx := X.1
  have hb := X.2.1
  unfold fX3_comeOut_b21 at hf
  refine pf_X3_45 X J dX3_comeOut_21 (fun σ5 H locs eq J => ?_)
  have hf := bnd_eq eq hf
  clear eq
  exact zr_vret X J hf dX3_comeOut_24
set_option maxHeartbeats 4000000 in
theorem tX3_comeOut {a1_ : Int32}  {σ u : zSt} {r : Unit} (hf : fX3_comeOut ln N M a1_ σ = some (r, u)) : zMv l yX3_comeOut cX3_comeOut 2 none (2) D cy shC ad ts ln [.ref (ad 7), .int a1_] σ u := by
  refine zM_of (by decide) (Nat.le_of_ble_eq_true rfl) (fun p e s m args below meth c ls ha X J hl => ?_)
  have hx := X.1
  have hb := X.2.1
  have hl : lv_has ls 2 [(0, .ref (ad 7)), (1, .int a1_)] := hl
  generalize s.heap = H at J ⊢
  generalize ([] : List Loc) = locs at J ⊢
  show W p l e (zRm (2)) s m args below meth c H locs 0 0 (zQv D cy shC ad ts ln below args s (r, u)) (F0 m 0 ls [])
  unfold fX3_comeOut at hf
  refine lv_aload_n hx hb dX3_comeOut_0 rfl (lv_at hl 0 rfl) ?_
  refine lv_aload_n hx hb dX3_comeOut_1 rfl (lv_at hl 0 rfl) ?_
  refine gf_X3_15 X J dX3_comeOut_2 ?_
  refine lv_aload_n hx hb dX3_comeOut_5 rfl (lv_at hl 0 rfl) ?_
  obtain ⟨r1, σ2, hc, hf⟩ := obd_some hf
  refine zr_calli (As := []) (rest := [.ref (ad 6), .ref (ad 7)]) X J 7 ho_C_X3.1 ho_C_X3.2.1 ho_C_X3.2.2 yy_X3_pop mw_methodLink_TinyCMachine_61_TinyCMachine_pop_I (d := 1) (zR_ok (by omega) (by decide)) hl.1 rfl (Nat.le_of_ble_eq_true rfl) (tX3_pop  hc) dX3_comeOut_6 (fun H locs J => ?_)
  obtain ⟨r3, σ4, hc, hf⟩ := obd_some hf
  refine zr_callNi (As := [.int r1]) (rest := [.ref (ad 7)]) X J 6 ho_C_X8.1 ho_C_X8.2.1 ho_C_X8.2.2 yy_X8_putOutput mw_methodLinkNest_TinyCMachine_109_TinyCTape_putOutput_IZ_TinyC (d := 0) (zR_ok (by omega) (by decide)) hl.1 rfl (Nat.le_of_ble_eq_true rfl) (tX8_putOutput  hc) dX3_comeOut_9 (fun H locs J => ?_)
  refine lv_if_eq hx hb dX3_comeOut_12 rfl (fun h => ?_) (fun h => ?_)
  · have hf := itp h hf
    refine lv_bipush (v := (6 : Int32)) hx hb dX3_comeOut_19 (by decide) ?_
    exact bX3_comeOut_21 X   J (lv_sub hl [] rfl) hf
  · have hf := itn h hf
    refine lv_iload_n hx hb dX3_comeOut_15 rfl (lv_at hl 1 rfl) ?_
    refine lv_goto hx hb dX3_comeOut_16 rfl ?_
    exact bX3_comeOut_21 X   J (lv_sub hl [] rfl) hf
set_option maxHeartbeats 4000000 in
theorem tX8_hasInput   {σ u : zSt} {r : Int32} (hf : fX8_hasInput ln N M  σ = some (r, u)) : zMi l yX8_hasInput cX8_hasInput 1 (some .boolean) (0) D cy shC ad ts ln [.ref (ad 6)] σ r u := by
  refine zM_of (by decide) (Nat.le_of_ble_eq_true rfl) (fun p e s m args below meth c ls ha X J hl => ?_)
  have hx := X.1
  have hb := X.2.1
  have hl : lv_has ls 1 [(0, .ref (ad 6))] := hl
  generalize s.heap = H at J ⊢
  generalize ([] : List Loc) = locs at J ⊢
  show W p l e (zRm (0)) s m args below meth c H locs 0 0 (zQi D cy shC ad ts ln below args s (r, u)) (F0 m 0 ls [])
  unfold fX8_hasInput at hf
  refine lv_aload_n hx hb dX8_hasInput_0 rfl (lv_at hl 0 rfl) ?_
  refine gf_X8_20 X J dX8_hasInput_1 ?_
  refine lv_aload_n hx hb dX8_hasInput_4 rfl (lv_at hl 0 rfl) ?_
  refine gf_X8_16 X J dX8_hasInput_5 ?_
  refine lv_icmp_ge hx hb dX8_hasInput_8 rfl (fun h => ?_) (fun h => ?_)
  · have hf := itp h hf
    refine lv_iconst (v := (0 : Int32)) hx hb dX8_hasInput_27 (by decide) ?_
    exact zr_zretc X J (by decide) hf dX8_hasInput_28
  · have hf := itn h hf
    refine lv_aload_n hx hb dX8_hasInput_11 rfl (lv_at hl 0 rfl) ?_
    refine gf_X8_20 X J dX8_hasInput_12 ?_
    refine lv_aload_n hx hb dX8_hasInput_15 rfl (lv_at hl 0 rfl) ?_
    refine gf_X8_7 X J dX8_hasInput_16 ?_
    refine an_X8_X8f0 X J dX8_hasInput_19 ?_
    refine lv_icmp_ge hx hb dX8_hasInput_20 rfl (fun h => ?_) (fun h => ?_)
    · have hf := itp h hf
      refine lv_iconst (v := (0 : Int32)) hx hb dX8_hasInput_27 (by decide) ?_
      exact zr_zretc X J (by decide) hf dX8_hasInput_28
    · have hf := itn h hf
      refine lv_iconst (v := (1 : Int32)) hx hb dX8_hasInput_23 (by decide) ?_
      refine lv_goto hx hb dX8_hasInput_24 rfl ?_
      exact zr_zretc X J (by decide) hf dX8_hasInput_28
set_option maxHeartbeats 4000000 in
theorem tX8_nextInput   {σ u : zSt} {r : Int32} (hf : fX8_nextInput ln N M  σ = some (r, u)) : zMi l yX8_nextInput cX8_nextInput 1 (some .int) (0) D cy shC ad ts ln [.ref (ad 6)] σ r u := by
  refine zM_of (by decide) (Nat.le_of_ble_eq_true rfl) (fun p e s m args below meth c ls ha X J hl => ?_)
  have hx := X.1
  have hb := X.2.1
  have hl : lv_has ls 1 [(0, .ref (ad 6))] := hl
  generalize s.heap = H at J ⊢
  generalize ([] : List Loc) = locs at J ⊢
  show W p l e (zRm (0)) s m args below meth c H locs 0 0 (zQi D cy shC ad ts ln below args s (r, u)) (F0 m 0 ls [])
  unfold fX8_nextInput at hf
  refine lv_aload_n hx hb dX8_nextInput_0 rfl (lv_at hl 0 rfl) ?_
  refine gf_X8_20 X J dX8_nextInput_1 ?_
  refine lv_aload_n hx hb dX8_nextInput_4 rfl (lv_at hl 0 rfl) ?_
  refine gf_X8_16 X J dX8_nextInput_5 ?_
  refine lv_icmp_ge hx hb dX8_nextInput_8 rfl (fun h => ?_) (fun h => ?_)
  · have hf := itp h hf
    refine lv_iconst (v := (0 : Int32)) hx hb dX8_nextInput_23 (by decide) ?_
    exact zr_iret X J hf dX8_nextInput_24
  · have hf := itn h hf
    refine lv_aload_n hx hb dX8_nextInput_11 rfl (lv_at hl 0 rfl) ?_
    refine gf_X8_20 X J dX8_nextInput_12 ?_
    refine lv_aload_n hx hb dX8_nextInput_15 rfl (lv_at hl 0 rfl) ?_
    refine gf_X8_7 X J dX8_nextInput_16 ?_
    refine an_X8_X8f0 X J dX8_nextInput_19 ?_
    refine lv_icmp_lt hx hb dX8_nextInput_20 rfl (fun h => ?_) (fun h => ?_)
    · have hf := itp h hf
      refine lv_aload_n hx hb dX8_nextInput_25 rfl (lv_at hl 0 rfl) ?_
      refine lv_dup hx hb dX8_nextInput_26 rfl ?_
      refine gf_X8_20 X J dX8_nextInput_27 ?_
      refine lv_iconst (v := (1 : Int32)) hx hb dX8_nextInput_30 (by decide) ?_
      refine lv_iadd hx hb dX8_nextInput_31 ?_
      refine pf_X8_20 X J dX8_nextInput_32 (fun σ1 H locs eq J => ?_)
      have hf := bnd_eq eq hf
      clear eq
      refine lv_aload_n hx hb dX8_nextInput_35 rfl (lv_at hl 0 rfl) ?_
      refine gf_X8_7 X J dX8_nextInput_36 ?_
      refine lv_aload_n hx hb dX8_nextInput_39 rfl (lv_at hl 0 rfl) ?_
      refine gf_X8_20 X J dX8_nextInput_40 ?_
      refine lv_iconst (v := (1 : Int32)) hx hb dX8_nextInput_43 (by decide) ?_
      refine lv_isub hx hb dX8_nextInput_44 ?_
      obtain ⟨hin, hf⟩ := itx hf
      refine al_X8_X8f0 X J hin dX8_nextInput_45 ?_
      exact zr_iret X J hf dX8_nextInput_46
    · have hf := itn h hf
      refine lv_iconst (v := (0 : Int32)) hx hb dX8_nextInput_23 (by decide) ?_
      exact zr_iret X J hf dX8_nextInput_24
set_option maxHeartbeats 4000000 in
theorem tX3_takeInput   {σ u : zSt} {r : Unit} (hf : fX3_takeInput ln N M  σ = some (r, u)) : zMv l yX3_takeInput cX3_takeInput 1 none (1) D cy shC ad ts ln [.ref (ad 7)] σ u := by
  refine zM_of (by decide) (Nat.le_of_ble_eq_true rfl) (fun p e s m args below meth c ls ha X J hl => ?_)
  have hx := X.1
  have hb := X.2.1
  have hl : lv_has ls 1 [(0, .ref (ad 7))] := hl
  generalize s.heap = H at J ⊢
  generalize ([] : List Loc) = locs at J ⊢
  show W p l e (zRm (1)) s m args below meth c H locs 0 0 (zQv D cy shC ad ts ln below args s (r, u)) (F0 m 0 ls [])
  unfold fX3_takeInput at hf
  refine lv_aload_n hx hb dX3_takeInput_0 rfl (lv_at hl 0 rfl) ?_
  refine gf_X3_15 X J dX3_takeInput_1 ?_
  obtain ⟨r1, σ2, hc, hf⟩ := obd_some hf
  refine zr_callNi (As := []) (rest := []) X J 6 ho_C_X8.1 ho_C_X8.2.1 ho_C_X8.2.2 yy_X8_hasInput mw_methodLinkNest_TinyCMachine_127_TinyCTape_hasInput_Z_TinyC (d := 0) (zR_ok (by omega) (by decide)) hl.1 rfl (Nat.le_of_ble_eq_true rfl) (tX8_hasInput  hc) dX3_takeInput_4 (fun H locs J => ?_)
  refine lv_if_eq hx hb dX3_takeInput_7 rfl (fun h => ?_) (fun h => ?_)
  · have hf := itp h hf
    refine lv_aload_n hx hb dX3_takeInput_24 rfl (lv_at hl 0 rfl) ?_
    refine lv_iconst (v := (5 : Int32)) hx hb dX3_takeInput_25 (by decide) ?_
    refine pf_X3_45 X J dX3_takeInput_26 (fun σ3 H locs eq J => ?_)
    have hf := bnd_eq eq hf
    clear eq
    exact zr_vret X J hf dX3_takeInput_29
  · have hf := itn h hf
    refine lv_aload_n hx hb dX3_takeInput_10 rfl (lv_at hl 0 rfl) ?_
    refine lv_aload_n hx hb dX3_takeInput_11 rfl (lv_at hl 0 rfl) ?_
    refine gf_X3_15 X J dX3_takeInput_12 ?_
    obtain ⟨r4, σ5, hc, hf⟩ := obd_some hf
    refine zr_callNi (As := []) (rest := [.ref (ad 7)]) X J 6 ho_C_X8.1 ho_C_X8.2.1 ho_C_X8.2.2 yy_X8_nextInput mw_methodLinkNest_TinyCMachine_131_TinyCTape_nextInput_I_TinyC (d := 0) (zR_ok (by omega) (by decide)) hl.1 rfl (Nat.le_of_ble_eq_true rfl) (tX8_nextInput  hc) dX3_takeInput_15 (fun H locs J => ?_)
    obtain ⟨r6, σ7, hc, hf⟩ := obd_some hf
    refine zr_callv (As := [.int r4]) (rest := []) X J 7 ho_C_X3.1 ho_C_X3.2.1 ho_C_X3.2.2 yy_X3_push mw_methodLink_TinyCMachine_69_TinyCMachine_push_IV (d := 0) (zR_ok (by omega) (by decide)) hl.1 rfl (Nat.le_of_ble_eq_true rfl) (tX3_push  hc) dX3_takeInput_18 (fun H locs J => ?_)
    refine lv_goto hx hb dX3_takeInput_21 rfl ?_
    exact zr_vret X J hf dX3_takeInput_29
set_option maxHeartbeats 4000000 in
theorem bX3_clear_22 {o : Unit × zSt} (X : zX p s m args meth c D cy shC ad ts cX3_clear 3 none RX3)  : ∀ (n : Nat) (x1_ : Int32) (x2_ : Int32) (σ : zSt) (H : Heap) (locs : List Loc) (ls : Array Slot), zJ D cy shC ad ln s σ H locs → lv_has ls 3 [(0, .ref (ad 7)), (1, .int x1_), (2, .int x2_)] → fX3_clear_b22 ln N M  n x1_ x2_ σ = some o → W p l e (zRm (1)) s m args below meth c H locs 0 0 (zQv D cy shC ad ts ln below args s o) (F0 m 22 ls []) := by
  have hx := X.1
  have hb := X.2.1
  intro n
  induction n with
  | zero =>
    intro x1_ x2_ σ H locs ls J hl hf
    rw [fX3_clear_b22] at hf
    cases hf
  | succ n ih =>
    intro x1_ x2_ σ H locs ls J hl hf
    rw [fX3_clear_b22] at hf
    refine lv_iload_n hx hb dX3_clear_22 rfl (lv_at hl 2 rfl) ?_
    refine lv_iload_n hx hb dX3_clear_23 rfl (lv_at hl 1 rfl) ?_
    refine lv_icmp_ge hx hb dX3_clear_24 rfl (fun h => ?_) (fun h => ?_)
    · have hf := itp h hf
      exact zr_vret X J hf dX3_clear_38
    · have hf := itn h hf
      refine lv_aload_n hx hb dX3_clear_27 rfl (lv_at hl 0 rfl) ?_
      refine lv_iconst (v := (0 : Int32)) hx hb dX3_clear_28 (by decide) ?_
      obtain ⟨r2, σ3, hc, hf⟩ := obd_some hf
      refine zr_callv (As := [.int (0 : Int32)]) (rest := []) X J 7 ho_C_X3.1 ho_C_X3.2.1 ho_C_X3.2.2 yy_X3_push mw_methodLink_TinyCMachine_69_TinyCMachine_push_IV (d := 0) (zR_ok (by omega) (by decide)) hl.1 rfl (Nat.le_of_ble_eq_true rfl) (tX3_push  hc) dX3_clear_29 (fun H locs J => ?_)
      obtain ⟨x4, eq⟩ : ∃ z, z = x2_ + (1 : Int32) := ⟨_, rfl⟩
      have hf := bnd_eq eq hf
      refine lv_iinc hx hb dX3_clear_32 hl (k := 2) rfl (v := x4) (by rw [eq]; rfl) (by decide) rfl (fun ls hl => ?_)
      clear eq
      have hl : lv_has ls 3 [(2, .int x4), (0, .ref (ad 7)), (1, .int x1_)] := hl
      refine lv_goto hx hb dX3_clear_35 rfl ?_
      exact ih _ _ _ _ _ _ J (lv_sub hl [1, 2, 0] rfl) hf
set_option maxHeartbeats 4000000 in
theorem tX3_clear {a1_ : Int32}  {σ u : zSt} {r : Unit} (hf : fX3_clear ln N M a1_ σ = some (r, u)) : zMv l yX3_clear cX3_clear 3 none (1) D cy shC ad ts ln [.ref (ad 7), .int a1_] σ u := by
  refine zM_of (by decide) (Nat.le_of_ble_eq_true rfl) (fun p e s m args below meth c ls ha X J hl => ?_)
  have hx := X.1
  have hb := X.2.1
  have hl : lv_has ls 3 [(0, .ref (ad 7)), (1, .int a1_)] := hl
  generalize s.heap = H at J ⊢
  generalize ([] : List Loc) = locs at J ⊢
  show W p l e (zRm (1)) s m args below meth c H locs 0 0 (zQv D cy shC ad ts ln below args s (r, u)) (F0 m 0 ls [])
  unfold fX3_clear at hf
  refine lv_aload_n hx hb dX3_clear_0 rfl (lv_at hl 0 rfl) ?_
  refine gf_X3_39 X J dX3_clear_1 ?_
  refine lv_aload_n hx hb dX3_clear_4 rfl (lv_at hl 0 rfl) ?_
  refine gf_X3_9 X J dX3_clear_5 ?_
  refine an_X3_X3f0 X J dX3_clear_8 ?_
  refine lv_iload_n hx hb dX3_clear_9 rfl (lv_at hl 1 rfl) ?_
  refine lv_isub hx hb dX3_clear_10 ?_
  refine lv_icmp_le hx hb dX3_clear_11 rfl (fun h => ?_) (fun h => ?_)
  · have hf := itp h hf
    refine lv_iconst (v := (0 : Int32)) hx hb dX3_clear_20 (by decide) ?_
    refine lv_topi (fun x1 eq => ?_)
    have hf := bnd_eq eq hf
    clear eq
    refine lv_istore_n hx hb dX3_clear_21 rfl hl (by decide) rfl (fun ls hl => ?_)
    have hl : lv_has ls 3 [(2, .int x1), (0, .ref (ad 7)), (1, .int a1_)] := hl
    exact bX3_clear_22 X  N _ _ _ _ _ _ J (lv_sub hl [1, 2, 0] rfl) hf
  · have hf := itn h hf
    refine lv_aload_n hx hb dX3_clear_14 rfl (lv_at hl 0 rfl) ?_
    refine lv_iconst (v := (4 : Int32)) hx hb dX3_clear_15 (by decide) ?_
    refine pf_X3_45 X J dX3_clear_16 (fun σ5 H locs eq J => ?_)
    have hf := bnd_eq eq hf
    clear eq
    exact zr_vret X J hf dX3_clear_19
set_option maxHeartbeats 4000000 in
theorem bX3_control_80 {o : Unit × zSt} (X : zX p s m args meth c D cy shC ad ts cX3_control 3 none RX3)  {s0_ : Int32}  {σ : zSt} {H : Heap} {locs : List Loc} {ls : Array Slot} (J : zJ D cy shC ad ln s σ H locs) (hl : lv_has ls 3 []) (hf : fX3_control_b80 ln N M  s0_ σ = some o) : W p l e (zRm (3)) s m args below meth c H locs 0 0 (zQv D cy shC ad ts ln below args s o) (F0 m 80 ls [.int s0_, .ref (ad 7)]) := by
  have hx := X.1
  have hb := X.2.1
  unfold fX3_control_b80 at hf
  refine pf_X3_32 X J dX3_control_80 (fun σ8 H locs eq J => ?_)
  have hf := bnd_eq eq hf
  clear eq
  refine lv_goto hx hb dX3_control_83 rfl ?_
  exact zr_vret X J hf dX3_control_142
set_option maxHeartbeats 4000000 in
theorem tX3_control {a1_ : Int32}  {σ u : zSt} {r : Unit} (hf : fX3_control ln N M a1_ σ = some (r, u)) : zMv l yX3_control cX3_control 3 none (3) D cy shC ad ts ln [.ref (ad 7), .int a1_] σ u := by
  refine zM_of (by decide) (Nat.le_of_ble_eq_true rfl) (fun p e s m args below meth c ls ha X J hl => ?_)
  have hx := X.1
  have hb := X.2.1
  have hl : lv_has ls 3 [(0, .ref (ad 7)), (1, .int a1_)] := hl
  generalize s.heap = H at J ⊢
  generalize ([] : List Loc) = locs at J ⊢
  show W p l e (zRm (3)) s m args below meth c H locs 0 0 (zQv D cy shC ad ts ln below args s (r, u)) (F0 m 0 ls [])
  unfold fX3_control at hf
  refine lv_iload_n hx hb dX3_control_0 rfl (lv_at hl 1 rfl) ?_
  by_cases h0_ : a1_ = (30 : Int32)
  · have hf := itp h0_ hf
    rw [h0_]
    refine lv_tableIn hx hb dX3_control_1 (by decide) (by decide) (tgt := 48) (by rfl) (by decide) ?_
    refine lv_aload_n hx hb dX3_control_48 rfl (lv_at hl 0 rfl) ?_
    refine lv_aload_n hx hb dX3_control_49 rfl (lv_at hl 0 rfl) ?_
    obtain ⟨r1, σ2, hc, hf⟩ := obd_some hf
    refine zr_calli (As := []) (rest := [.ref (ad 7)]) X J 7 ho_C_X3.1 ho_C_X3.2.1 ho_C_X3.2.2 yy_X3_next mw_methodLink_TinyCMachine_96_TinyCMachine_next_I (d := 1) (zR_ok (by omega) (by decide)) hl.1 rfl (Nat.le_of_ble_eq_true rfl) (tX3_next  hc) dX3_control_50 (fun H locs J => ?_)
    refine pf_X3_32 X J dX3_control_53 (fun σ3 H locs eq J => ?_)
    have hf := bnd_eq eq hf
    clear eq
    refine lv_goto hx hb dX3_control_56 rfl ?_
    exact zr_vret X J hf dX3_control_142
  have hf := itn h0_ hf
  by_cases h1_ : a1_ = (31 : Int32)
  · have hf := itp h1_ hf
    rw [h1_]
    refine lv_tableIn hx hb dX3_control_1 (by decide) (by decide) (tgt := 59) (by rfl) (by decide) ?_
    refine lv_aload_n hx hb dX3_control_59 rfl (lv_at hl 0 rfl) ?_
    obtain ⟨r4, σ5, hc, hf⟩ := obd_some hf
    refine zr_calli (As := []) (rest := []) X J 7 ho_C_X3.1 ho_C_X3.2.1 ho_C_X3.2.2 yy_X3_next mw_methodLink_TinyCMachine_96_TinyCMachine_next_I (d := 1) (zR_ok (by omega) (by decide)) hl.1 rfl (Nat.le_of_ble_eq_true rfl) (tX3_next  hc) dX3_control_60 (fun H locs J => ?_)
    refine lv_istore_n hx hb dX3_control_63 rfl hl (by decide) rfl (fun ls hl => ?_)
    have hl : lv_has ls 3 [(2, .int r4), (0, .ref (ad 7)), (1, .int a1_)] := hl
    refine lv_aload_n hx hb dX3_control_64 rfl (lv_at hl 1 rfl) ?_
    refine lv_aload_n hx hb dX3_control_65 rfl (lv_at hl 1 rfl) ?_
    obtain ⟨r6, σ7, hc, hf⟩ := obd_some hf
    refine zr_calli (As := []) (rest := [.ref (ad 7)]) X J 7 ho_C_X3.1 ho_C_X3.2.1 ho_C_X3.2.2 yy_X3_pop mw_methodLink_TinyCMachine_61_TinyCMachine_pop_I (d := 1) (zR_ok (by omega) (by decide)) hl.1 rfl (Nat.le_of_ble_eq_true rfl) (tX3_pop  hc) dX3_control_66 (fun H locs J => ?_)
    refine lv_if_ne hx hb dX3_control_69 rfl (fun h => ?_) (fun h => ?_)
    · have hf := itn h hf
      refine lv_aload_n hx hb dX3_control_76 rfl (lv_at hl 1 rfl) ?_
      refine gf_X3_32 X J dX3_control_77 ?_
      exact bX3_control_80 X   J (lv_sub hl [] rfl) hf
    · have hf := itp h hf
      refine lv_iload_n hx hb dX3_control_72 rfl (lv_at hl 0 rfl) ?_
      refine lv_goto hx hb dX3_control_73 rfl ?_
      exact bX3_control_80 X   J (lv_sub hl [] rfl) hf
  have hf := itn h1_ hf
  by_cases h2_ : a1_ = (32 : Int32)
  · have hf := itp h2_ hf
    rw [h2_]
    refine lv_tableIn hx hb dX3_control_1 (by decide) (by decide) (tgt := 86) (by rfl) (by decide) ?_
    refine lv_aload_n hx hb dX3_control_86 rfl (lv_at hl 0 rfl) ?_
    refine lv_aload_n hx hb dX3_control_87 rfl (lv_at hl 0 rfl) ?_
    obtain ⟨r9, σ10, hc, hf⟩ := obd_some hf
    refine zr_calli (As := []) (rest := [.ref (ad 7)]) X J 7 ho_C_X3.1 ho_C_X3.2.1 ho_C_X3.2.2 yy_X3_next mw_methodLink_TinyCMachine_96_TinyCMachine_next_I (d := 1) (zR_ok (by omega) (by decide)) hl.1 rfl (Nat.le_of_ble_eq_true rfl) (tX3_next  hc) dX3_control_88 (fun H locs J => ?_)
    obtain ⟨r11, σ12, hc, hf⟩ := obd_some hf
    refine zr_callv (As := [.int r9]) (rest := []) X J 7 ho_C_X3.1 ho_C_X3.2.1 ho_C_X3.2.2 yy_X3_call mw_methodLink_TinyCMachine_115_TinyCMachine_call_IV (d := 1) (zR_ok (by omega) (by decide)) hl.1 rfl (Nat.le_of_ble_eq_true rfl) (tX3_call  hc) dX3_control_91 (fun H locs J => ?_)
    refine lv_goto hx hb dX3_control_94 rfl ?_
    exact zr_vret X J hf dX3_control_142
  have hf := itn h2_ hf
  by_cases h3_ : a1_ = (33 : Int32)
  · have hf := itp h3_ hf
    rw [h3_]
    refine lv_tableIn hx hb dX3_control_1 (by decide) (by decide) (tgt := 97) (by rfl) (by decide) ?_
    refine lv_aload_n hx hb dX3_control_97 rfl (lv_at hl 0 rfl) ?_
    refine lv_aload_n hx hb dX3_control_98 rfl (lv_at hl 0 rfl) ?_
    obtain ⟨r13, σ14, hc, hf⟩ := obd_some hf
    refine zr_calli (As := []) (rest := [.ref (ad 7)]) X J 7 ho_C_X3.1 ho_C_X3.2.1 ho_C_X3.2.2 yy_X3_next mw_methodLink_TinyCMachine_96_TinyCMachine_next_I (d := 1) (zR_ok (by omega) (by decide)) hl.1 rfl (Nat.le_of_ble_eq_true rfl) (tX3_next  hc) dX3_control_99 (fun H locs J => ?_)
    obtain ⟨r15, σ16, hc, hf⟩ := obd_some hf
    refine zr_callv (As := [.int r13]) (rest := []) X J 7 ho_C_X3.1 ho_C_X3.2.1 ho_C_X3.2.2 yy_X3_leave mw_methodLink_TinyCMachine_118_TinyCMachine_leave_IV (d := 2) (zR_ok (by omega) (by decide)) hl.1 rfl (Nat.le_of_ble_eq_true rfl) (tX3_leave  hc) dX3_control_102 (fun H locs J => ?_)
    refine lv_goto hx hb dX3_control_105 rfl ?_
    exact zr_vret X J hf dX3_control_142
  have hf := itn h3_ hf
  by_cases h4_ : a1_ = (34 : Int32)
  · have hf := itp h4_ hf
    rw [h4_]
    refine lv_tableIn hx hb dX3_control_1 (by decide) (by decide) (tgt := 108) (by rfl) (by decide) ?_
    refine lv_aload_n hx hb dX3_control_108 rfl (lv_at hl 0 rfl) ?_
    refine lv_iconst (v := (0 : Int32)) hx hb dX3_control_109 (by decide) ?_
    obtain ⟨r17, σ18, hc, hf⟩ := obd_some hf
    refine zr_callv (As := [.int (0 : Int32)]) (rest := []) X J 7 ho_C_X3.1 ho_C_X3.2.1 ho_C_X3.2.2 yy_X3_comeOut mw_methodLink_TinyCMachine_93_TinyCMachine_comeOut_IV (d := 2) (zR_ok (by omega) (by decide)) hl.1 rfl (Nat.le_of_ble_eq_true rfl) (tX3_comeOut  hc) dX3_control_110 (fun H locs J => ?_)
    refine lv_goto hx hb dX3_control_113 rfl ?_
    exact zr_vret X J hf dX3_control_142
  have hf := itn h4_ hf
  by_cases h5_ : a1_ = (35 : Int32)
  · have hf := itp h5_ hf
    rw [h5_]
    refine lv_tableIn hx hb dX3_control_1 (by decide) (by decide) (tgt := 116) (by rfl) (by decide) ?_
    refine lv_aload_n hx hb dX3_control_116 rfl (lv_at hl 0 rfl) ?_
    obtain ⟨r19, σ20, hc, hf⟩ := obd_some hf
    refine zr_callv (As := []) (rest := []) X J 7 ho_C_X3.1 ho_C_X3.2.1 ho_C_X3.2.2 yy_X3_takeInput mw_methodLink_TinyCMachine_121_TinyCMachine_takeInput_V (d := 1) (zR_ok (by omega) (by decide)) hl.1 rfl (Nat.le_of_ble_eq_true rfl) (tX3_takeInput  hc) dX3_control_117 (fun H locs J => ?_)
    refine lv_goto hx hb dX3_control_120 rfl ?_
    exact zr_vret X J hf dX3_control_142
  have hf := itn h5_ hf
  by_cases h6_ : a1_ = (36 : Int32)
  · have hf := itp h6_ hf
    rw [h6_]
    refine lv_tableIn hx hb dX3_control_1 (by decide) (by decide) (tgt := 123) (by rfl) (by decide) ?_
    refine lv_aload_n hx hb dX3_control_123 rfl (lv_at hl 0 rfl) ?_
    obtain ⟨r21, σ22, hc, hf⟩ := obd_some hf
    refine zr_calli (As := []) (rest := []) X J 7 ho_C_X3.1 ho_C_X3.2.1 ho_C_X3.2.2 yy_X3_pop mw_methodLink_TinyCMachine_61_TinyCMachine_pop_I (d := 1) (zR_ok (by omega) (by decide)) hl.1 rfl (Nat.le_of_ble_eq_true rfl) (tX3_pop  hc) dX3_control_124 (fun H locs J => ?_)
    refine lv_pop hx hb dX3_control_127 rfl ?_
    refine lv_goto hx hb dX3_control_128 rfl ?_
    exact zr_vret X J hf dX3_control_142
  have hf := itn h6_ hf
  by_cases h7_ : a1_ = (37 : Int32)
  · have hf := itp h7_ hf
    rw [h7_]
    refine lv_tableIn hx hb dX3_control_1 (by decide) (by decide) (tgt := 131) (by rfl) (by decide) ?_
    refine lv_aload_n hx hb dX3_control_131 rfl (lv_at hl 0 rfl) ?_
    refine lv_aload_n hx hb dX3_control_132 rfl (lv_at hl 0 rfl) ?_
    obtain ⟨r23, σ24, hc, hf⟩ := obd_some hf
    refine zr_calli (As := []) (rest := [.ref (ad 7)]) X J 7 ho_C_X3.1 ho_C_X3.2.1 ho_C_X3.2.2 yy_X3_next mw_methodLink_TinyCMachine_96_TinyCMachine_next_I (d := 1) (zR_ok (by omega) (by decide)) hl.1 rfl (Nat.le_of_ble_eq_true rfl) (tX3_next  hc) dX3_control_133 (fun H locs J => ?_)
    obtain ⟨r25, σ26, hc, hf⟩ := obd_some hf
    refine zr_callv (As := [.int r23]) (rest := []) X J 7 ho_C_X3.1 ho_C_X3.2.1 ho_C_X3.2.2 yy_X3_clear mw_methodLink_TinyCMachine_124_TinyCMachine_clear_IV (d := 1) (zR_ok (by omega) (by decide)) hl.1 rfl (Nat.le_of_ble_eq_true rfl) (tX3_clear  hc) dX3_control_136 (fun H locs J => ?_)
    refine lv_goto hx hb dX3_control_139 rfl ?_
    exact zr_vret X J hf dX3_control_142
  have hf := itn h7_ hf
  refine lv_tableOut hx hb dX3_control_1 (tgt := 142) (by have := lv_neT h0_ (a := 30) (by decide); have := lv_neT h1_ (a := 31) (by decide); have := lv_neT h2_ (a := 32) (by decide); have := lv_neT h3_ (a := 33) (by decide); have := lv_neT h4_ (a := 34) (by decide); have := lv_neT h5_ (a := 35) (by decide); have := lv_neT h6_ (a := 36) (by decide); have := lv_neT h7_ (a := 37) (by decide); omega) (by decide) ?_
  exact zr_vret X J hf dX3_control_142
set_option maxHeartbeats 4000000 in
theorem tX3_store {a1_ : Int32} {a2_ : Int32}  {σ u : zSt} {r : Unit} (hf : fX3_store ln N M a1_ a2_ σ = some (r, u)) : zMv l yX3_store cX3_store 3 none (0) D cy shC ad ts ln [.ref (ad 7), .int a1_, .int a2_] σ u := by
  refine zM_of (by decide) (Nat.le_of_ble_eq_true rfl) (fun p e s m args below meth c ls ha X J hl => ?_)
  have hx := X.1
  have hb := X.2.1
  have hl : lv_has ls 3 [(0, .ref (ad 7)), (1, .int a1_), (2, .int a2_)] := hl
  generalize s.heap = H at J ⊢
  generalize ([] : List Loc) = locs at J ⊢
  show W p l e (zRm (0)) s m args below meth c H locs 0 0 (zQv D cy shC ad ts ln below args s (r, u)) (F0 m 0 ls [])
  unfold fX3_store at hf
  refine lv_iload_n hx hb dX3_store_0 rfl (lv_at hl 1 rfl) ?_
  refine lv_if_lt hx hb dX3_store_1 rfl (fun h => ?_) (fun h => ?_)
  · have hf := itp h hf
    exact zr_vret X J hf dX3_store_20
  · have hf := itn h hf
    refine lv_iload_n hx hb dX3_store_4 rfl (lv_at hl 1 rfl) ?_
    refine lv_aload_n hx hb dX3_store_5 rfl (lv_at hl 0 rfl) ?_
    refine gf_X3_9 X J dX3_store_6 ?_
    refine an_X3_X3f0 X J dX3_store_9 ?_
    refine lv_icmp_ge hx hb dX3_store_10 rfl (fun h => ?_) (fun h => ?_)
    · have hf := itp h hf
      exact zr_vret X J hf dX3_store_20
    · have hf := itn h hf
      refine lv_aload_n hx hb dX3_store_13 rfl (lv_at hl 0 rfl) ?_
      refine gf_X3_9 X J dX3_store_14 ?_
      refine lv_iload_n hx hb dX3_store_17 rfl (lv_at hl 1 rfl) ?_
      refine lv_iload_n hx hb dX3_store_18 rfl (lv_at hl 2 rfl) ?_
      obtain ⟨hin, hf⟩ := itx hf
      refine as_X3_X3f0 X J hin dX3_store_19 (fun σ1 H locs eq J => ?_)
      have hf := bnd_eq eq hf
      clear eq
      exact zr_vret X J hf dX3_store_20
set_option maxHeartbeats 4000000 in
theorem bX3_loadItem_14 {o : Unit × zSt} (X : zX p s m args meth c D cy shC ad ts cX3_loadItem 4 none RX3)    {σ : zSt} {H : Heap} {locs : List Loc} {ls : Array Slot} (J : zJ D cy shC ad ln s σ H locs) (hl : lv_has ls 4 [(0, .ref (ad 7))]) (hf : fX3_loadItem_b14 ln N M   σ = some o) : W p l e (zRm (2)) s m args below meth c H locs 0 0 (zQv D cy shC ad ts ln below args s o) (F0 m 14 ls []) := by
  have hx := X.1
  have hb := X.2.1
  unfold fX3_loadItem_b14 at hf
  refine lv_aload_n hx hb dX3_loadItem_14 rfl (lv_at hl 0 rfl) ?_
  refine lv_iconst (v := (3 : Int32)) hx hb dX3_loadItem_15 (by decide) ?_
  refine pf_X3_45 X J dX3_loadItem_16 (fun σ3 H locs eq J => ?_)
  have hf := bnd_eq eq hf
  clear eq
  refine lv_goto hx hb dX3_loadItem_19 rfl ?_
  exact zr_vret X J hf dX3_loadItem_33
set_option maxHeartbeats 4000000 in
theorem tX3_loadItem {a1_ : Int32} {a2_ : Int32}  {σ u : zSt} {r : Unit} (hf : fX3_loadItem ln N M a1_ a2_ σ = some (r, u)) : zMv l yX3_loadItem cX3_loadItem 4 none (2) D cy shC ad ts ln [.ref (ad 7), .int a1_, .int a2_] σ u := by
  refine zM_of (by decide) (Nat.le_of_ble_eq_true rfl) (fun p e s m args below meth c ls ha X J hl => ?_)
  have hx := X.1
  have hb := X.2.1
  have hl : lv_has ls 4 [(0, .ref (ad 7)), (1, .int a1_), (2, .int a2_)] := hl
  generalize s.heap = H at J ⊢
  generalize ([] : List Loc) = locs at J ⊢
  show W p l e (zRm (2)) s m args below meth c H locs 0 0 (zQv D cy shC ad ts ln below args s (r, u)) (F0 m 0 ls [])
  unfold fX3_loadItem at hf
  refine lv_aload_n hx hb dX3_loadItem_0 rfl (lv_at hl 0 rfl) ?_
  obtain ⟨r1, σ2, hc, hf⟩ := obd_some hf
  refine zr_calli (As := []) (rest := []) X J 7 ho_C_X3.1 ho_C_X3.2.1 ho_C_X3.2.2 yy_X3_pop mw_methodLink_TinyCMachine_61_TinyCMachine_pop_I (d := 1) (zR_ok (by omega) (by decide)) hl.1 rfl (Nat.le_of_ble_eq_true rfl) (tX3_pop  hc) dX3_loadItem_1 (fun H locs J => ?_)
  refine lv_istore_n hx hb dX3_loadItem_4 rfl hl (by decide) rfl (fun ls hl => ?_)
  have hl : lv_has ls 4 [(3, .int r1), (0, .ref (ad 7)), (1, .int a1_), (2, .int a2_)] := hl
  refine lv_iload_n hx hb dX3_loadItem_5 rfl (lv_at hl 0 rfl) ?_
  refine lv_if_lt hx hb dX3_loadItem_6 rfl (fun h => ?_) (fun h => ?_)
  · have hf := itp h hf
    exact bX3_loadItem_14 X   J (lv_sub hl [1] rfl) hf
  · have hf := itn h hf
    refine lv_iload_n hx hb dX3_loadItem_9 rfl (lv_at hl 0 rfl) ?_
    refine lv_iload_n hx hb dX3_loadItem_10 rfl (lv_at hl 3 rfl) ?_
    refine lv_icmp_lt hx hb dX3_loadItem_11 rfl (fun h => ?_) (fun h => ?_)
    · have hf := itp h hf
      refine lv_aload_n hx hb dX3_loadItem_22 rfl (lv_at hl 1 rfl) ?_
      refine lv_aload_n hx hb dX3_loadItem_23 rfl (lv_at hl 1 rfl) ?_
      refine lv_iload_n hx hb dX3_loadItem_24 rfl (lv_at hl 2 rfl) ?_
      refine lv_iload_n hx hb dX3_loadItem_25 rfl (lv_at hl 0 rfl) ?_
      refine lv_iadd hx hb dX3_loadItem_26 ?_
      obtain ⟨r4, σ5, hc, hf⟩ := obd_some hf
      refine zr_calli (As := [.int (a1_ + r1)]) (rest := [.ref (ad 7)]) X J 7 ho_C_X3.1 ho_C_X3.2.1 ho_C_X3.2.2 yy_X3_load mw_methodLink_TinyCMachine_82_TinyCMachine_load_II (d := 0) (zR_ok (by omega) (by decide)) hl.1 rfl (Nat.le_of_ble_eq_true rfl) (tX3_load  hc) dX3_loadItem_27 (fun H locs J => ?_)
      obtain ⟨r6, σ7, hc, hf⟩ := obd_some hf
      refine zr_callv (As := [.int r4]) (rest := []) X J 7 ho_C_X3.1 ho_C_X3.2.1 ho_C_X3.2.2 yy_X3_push mw_methodLink_TinyCMachine_69_TinyCMachine_push_IV (d := 0) (zR_ok (by omega) (by decide)) hl.1 rfl (Nat.le_of_ble_eq_true rfl) (tX3_push  hc) dX3_loadItem_30 (fun H locs J => ?_)
      exact zr_vret X J hf dX3_loadItem_33
    · have hf := itn h hf
      exact bX3_loadItem_14 X   J (lv_sub hl [1] rfl) hf
set_option maxHeartbeats 4000000 in
theorem bX3_storeItem_22 {o : Unit × zSt} (X : zX p s m args meth c D cy shC ad ts cX3_storeItem 5 none RX3)    {σ : zSt} {H : Heap} {locs : List Loc} {ls : Array Slot} (J : zJ D cy shC ad ln s σ H locs) (hl : lv_has ls 5 [(0, .ref (ad 7))]) (hf : fX3_storeItem_b22 ln N M   σ = some o) : W p l e (zRm (2)) s m args below meth c H locs 0 0 (zQv D cy shC ad ts ln below args s o) (F0 m 22 ls []) := by
  have hx := X.1
  have hb := X.2.1
  unfold fX3_storeItem_b22 at hf
  refine lv_aload_n hx hb dX3_storeItem_22 rfl (lv_at hl 0 rfl) ?_
  refine lv_iconst (v := (3 : Int32)) hx hb dX3_storeItem_23 (by decide) ?_
  refine pf_X3_45 X J dX3_storeItem_24 (fun σ5 H locs eq J => ?_)
  have hf := bnd_eq eq hf
  clear eq
  refine lv_goto hx hb dX3_storeItem_27 rfl ?_
  exact zr_vret X J hf dX3_storeItem_39
set_option maxHeartbeats 4000000 in
theorem tX3_storeItem {a1_ : Int32} {a2_ : Int32}  {σ u : zSt} {r : Unit} (hf : fX3_storeItem ln N M a1_ a2_ σ = some (r, u)) : zMv l yX3_storeItem cX3_storeItem 5 none (2) D cy shC ad ts ln [.ref (ad 7), .int a1_, .int a2_] σ u := by
  refine zM_of (by decide) (Nat.le_of_ble_eq_true rfl) (fun p e s m args below meth c ls ha X J hl => ?_)
  have hx := X.1
  have hb := X.2.1
  have hl : lv_has ls 5 [(0, .ref (ad 7)), (1, .int a1_), (2, .int a2_)] := hl
  generalize s.heap = H at J ⊢
  generalize ([] : List Loc) = locs at J ⊢
  show W p l e (zRm (2)) s m args below meth c H locs 0 0 (zQv D cy shC ad ts ln below args s (r, u)) (F0 m 0 ls [])
  unfold fX3_storeItem at hf
  refine lv_aload_n hx hb dX3_storeItem_0 rfl (lv_at hl 0 rfl) ?_
  obtain ⟨r1, σ2, hc, hf⟩ := obd_some hf
  refine zr_calli (As := []) (rest := []) X J 7 ho_C_X3.1 ho_C_X3.2.1 ho_C_X3.2.2 yy_X3_pop mw_methodLink_TinyCMachine_61_TinyCMachine_pop_I (d := 1) (zR_ok (by omega) (by decide)) hl.1 rfl (Nat.le_of_ble_eq_true rfl) (tX3_pop  hc) dX3_storeItem_1 (fun H locs J => ?_)
  refine lv_istore_n hx hb dX3_storeItem_4 rfl hl (by decide) rfl (fun ls hl => ?_)
  have hl : lv_has ls 5 [(3, .int r1), (0, .ref (ad 7)), (1, .int a1_), (2, .int a2_)] := hl
  refine lv_aload_n hx hb dX3_storeItem_5 rfl (lv_at hl 1 rfl) ?_
  obtain ⟨r3, σ4, hc, hf⟩ := obd_some hf
  refine zr_calli (As := []) (rest := []) X J 7 ho_C_X3.1 ho_C_X3.2.1 ho_C_X3.2.2 yy_X3_pop mw_methodLink_TinyCMachine_61_TinyCMachine_pop_I (d := 1) (zR_ok (by omega) (by decide)) hl.1 rfl (Nat.le_of_ble_eq_true rfl) (tX3_pop  hc) dX3_storeItem_6 (fun H locs J => ?_)
  refine lv_istore hx hb dX3_storeItem_9 hl (by decide) rfl (fun ls hl => ?_)
  have hl : lv_has ls 5 [(4, .int r3), (3, .int r1), (0, .ref (ad 7)), (1, .int a1_), (2, .int a2_)] := hl
  refine lv_iload hx hb dX3_storeItem_11 (lv_at hl 0 rfl) ?_
  refine lv_if_lt hx hb dX3_storeItem_13 rfl (fun h => ?_) (fun h => ?_)
  · have hf := itp h hf
    exact bX3_storeItem_22 X   J (lv_sub hl [2] rfl) hf
  · have hf := itn h hf
    refine lv_iload hx hb dX3_storeItem_16 (lv_at hl 0 rfl) ?_
    refine lv_iload_n hx hb dX3_storeItem_18 rfl (lv_at hl 4 rfl) ?_
    refine lv_icmp_lt hx hb dX3_storeItem_19 rfl (fun h => ?_) (fun h => ?_)
    · have hf := itp h hf
      refine lv_aload_n hx hb dX3_storeItem_30 rfl (lv_at hl 2 rfl) ?_
      refine lv_iload_n hx hb dX3_storeItem_31 rfl (lv_at hl 3 rfl) ?_
      refine lv_iload hx hb dX3_storeItem_32 (lv_at hl 0 rfl) ?_
      refine lv_iadd hx hb dX3_storeItem_34 ?_
      refine lv_iload_n hx hb dX3_storeItem_35 rfl (lv_at hl 1 rfl) ?_
      obtain ⟨r6, σ7, hc, hf⟩ := obd_some hf
      refine zr_callv (As := [.int (a1_ + r3), .int r1]) (rest := []) X J 7 ho_C_X3.1 ho_C_X3.2.1 ho_C_X3.2.2 yy_X3_store mw_methodLink_TinyCMachine_99_TinyCMachine_store_IIV (d := 0) (zR_ok (by omega) (by decide)) hl.1 rfl (Nat.le_of_ble_eq_true rfl) (tX3_store  hc) dX3_storeItem_36 (fun H locs J => ?_)
      exact zr_vret X J hf dX3_storeItem_39
    · have hf := itn h hf
      exact bX3_storeItem_22 X   J (lv_sub hl [2] rfl) hf
set_option maxHeartbeats 4000000 in
theorem tX3_move {a1_ : Int32}  {σ u : zSt} {r : Unit} (hf : fX3_move ln N M a1_ σ = some (r, u)) : zMv l yX3_move cX3_move 2 none (3) D cy shC ad ts ln [.ref (ad 7), .int a1_] σ u := by
  refine zM_of (by decide) (Nat.le_of_ble_eq_true rfl) (fun p e s m args below meth c ls ha X J hl => ?_)
  have hx := X.1
  have hb := X.2.1
  have hl : lv_has ls 2 [(0, .ref (ad 7)), (1, .int a1_)] := hl
  generalize s.heap = H at J ⊢
  generalize ([] : List Loc) = locs at J ⊢
  show W p l e (zRm (3)) s m args below meth c H locs 0 0 (zQv D cy shC ad ts ln below args s (r, u)) (F0 m 0 ls [])
  unfold fX3_move at hf
  refine lv_iload_n hx hb dX3_move_0 rfl (lv_at hl 1 rfl) ?_
  by_cases h0_ : a1_ = (0 : Int32)
  · have hf := itp h0_ hf
    rw [h0_]
    refine lv_tableIn hx hb dX3_move_1 (by decide) (by decide) (tgt := 48) (by rfl) (by decide) ?_
    refine lv_aload_n hx hb dX3_move_48 rfl (lv_at hl 0 rfl) ?_
    refine lv_iconst (v := (1 : Int32)) hx hb dX3_move_49 (by decide) ?_
    obtain ⟨r1, σ2, hc, hf⟩ := obd_some hf
    refine zr_callv (As := [.int (1 : Int32)]) (rest := []) X J 7 ho_C_X3.1 ho_C_X3.2.1 ho_C_X3.2.2 yy_X3_comeOut mw_methodLink_TinyCMachine_93_TinyCMachine_comeOut_IV (d := 2) (zR_ok (by omega) (by decide)) hl.1 rfl (Nat.le_of_ble_eq_true rfl) (tX3_comeOut  hc) dX3_move_50 (fun H locs J => ?_)
    refine lv_goto hx hb dX3_move_53 rfl ?_
    exact zr_vret X J hf dX3_move_167
  have hf := itn h0_ hf
  by_cases h1_ : a1_ = (1 : Int32)
  · have hf := itp h1_ hf
    rw [h1_]
    refine lv_tableIn hx hb dX3_move_1 (by decide) (by decide) (tgt := 56) (by rfl) (by decide) ?_
    refine lv_aload_n hx hb dX3_move_56 rfl (lv_at hl 0 rfl) ?_
    refine lv_aload_n hx hb dX3_move_57 rfl (lv_at hl 0 rfl) ?_
    obtain ⟨r3, σ4, hc, hf⟩ := obd_some hf
    refine zr_calli (As := []) (rest := [.ref (ad 7)]) X J 7 ho_C_X3.1 ho_C_X3.2.1 ho_C_X3.2.2 yy_X3_next mw_methodLink_TinyCMachine_96_TinyCMachine_next_I (d := 1) (zR_ok (by omega) (by decide)) hl.1 rfl (Nat.le_of_ble_eq_true rfl) (tX3_next  hc) dX3_move_58 (fun H locs J => ?_)
    obtain ⟨r5, σ6, hc, hf⟩ := obd_some hf
    refine zr_callv (As := [.int r3]) (rest := []) X J 7 ho_C_X3.1 ho_C_X3.2.1 ho_C_X3.2.2 yy_X3_push mw_methodLink_TinyCMachine_69_TinyCMachine_push_IV (d := 0) (zR_ok (by omega) (by decide)) hl.1 rfl (Nat.le_of_ble_eq_true rfl) (tX3_push  hc) dX3_move_61 (fun H locs J => ?_)
    refine lv_goto hx hb dX3_move_64 rfl ?_
    exact zr_vret X J hf dX3_move_167
  have hf := itn h1_ hf
  by_cases h2_ : a1_ = (2 : Int32)
  · have hf := itp h2_ hf
    rw [h2_]
    refine lv_tableIn hx hb dX3_move_1 (by decide) (by decide) (tgt := 67) (by rfl) (by decide) ?_
    refine lv_aload_n hx hb dX3_move_67 rfl (lv_at hl 0 rfl) ?_
    refine lv_aload_n hx hb dX3_move_68 rfl (lv_at hl 0 rfl) ?_
    refine lv_aload_n hx hb dX3_move_69 rfl (lv_at hl 0 rfl) ?_
    obtain ⟨r7, σ8, hc, hf⟩ := obd_some hf
    refine zr_calli (As := []) (rest := [.ref (ad 7), .ref (ad 7)]) X J 7 ho_C_X3.1 ho_C_X3.2.1 ho_C_X3.2.2 yy_X3_next mw_methodLink_TinyCMachine_96_TinyCMachine_next_I (d := 1) (zR_ok (by omega) (by decide)) hl.1 rfl (Nat.le_of_ble_eq_true rfl) (tX3_next  hc) dX3_move_70 (fun H locs J => ?_)
    obtain ⟨r9, σ10, hc, hf⟩ := obd_some hf
    refine zr_calli (As := [.int r7]) (rest := [.ref (ad 7)]) X J 7 ho_C_X3.1 ho_C_X3.2.1 ho_C_X3.2.2 yy_X3_load mw_methodLink_TinyCMachine_82_TinyCMachine_load_II (d := 0) (zR_ok (by omega) (by decide)) hl.1 rfl (Nat.le_of_ble_eq_true rfl) (tX3_load  hc) dX3_move_73 (fun H locs J => ?_)
    obtain ⟨r11, σ12, hc, hf⟩ := obd_some hf
    refine zr_callv (As := [.int r9]) (rest := []) X J 7 ho_C_X3.1 ho_C_X3.2.1 ho_C_X3.2.2 yy_X3_push mw_methodLink_TinyCMachine_69_TinyCMachine_push_IV (d := 0) (zR_ok (by omega) (by decide)) hl.1 rfl (Nat.le_of_ble_eq_true rfl) (tX3_push  hc) dX3_move_76 (fun H locs J => ?_)
    refine lv_goto hx hb dX3_move_79 rfl ?_
    exact zr_vret X J hf dX3_move_167
  have hf := itn h2_ hf
  by_cases h3_ : a1_ = (3 : Int32)
  · have hf := itp h3_ hf
    rw [h3_]
    refine lv_tableIn hx hb dX3_move_1 (by decide) (by decide) (tgt := 82) (by rfl) (by decide) ?_
    refine lv_aload_n hx hb dX3_move_82 rfl (lv_at hl 0 rfl) ?_
    refine lv_aload_n hx hb dX3_move_83 rfl (lv_at hl 0 rfl) ?_
    obtain ⟨r13, σ14, hc, hf⟩ := obd_some hf
    refine zr_calli (As := []) (rest := [.ref (ad 7)]) X J 7 ho_C_X3.1 ho_C_X3.2.1 ho_C_X3.2.2 yy_X3_next mw_methodLink_TinyCMachine_96_TinyCMachine_next_I (d := 1) (zR_ok (by omega) (by decide)) hl.1 rfl (Nat.le_of_ble_eq_true rfl) (tX3_next  hc) dX3_move_84 (fun H locs J => ?_)
    refine lv_aload_n hx hb dX3_move_87 rfl (lv_at hl 0 rfl) ?_
    obtain ⟨r15, σ16, hc, hf⟩ := obd_some hf
    refine zr_calli (As := []) (rest := [.int r13, .ref (ad 7)]) X J 7 ho_C_X3.1 ho_C_X3.2.1 ho_C_X3.2.2 yy_X3_pop mw_methodLink_TinyCMachine_61_TinyCMachine_pop_I (d := 1) (zR_ok (by omega) (by decide)) hl.1 rfl (Nat.le_of_ble_eq_true rfl) (tX3_pop  hc) dX3_move_88 (fun H locs J => ?_)
    obtain ⟨r17, σ18, hc, hf⟩ := obd_some hf
    refine zr_callv (As := [.int r13, .int r15]) (rest := []) X J 7 ho_C_X3.1 ho_C_X3.2.1 ho_C_X3.2.2 yy_X3_store mw_methodLink_TinyCMachine_99_TinyCMachine_store_IIV (d := 0) (zR_ok (by omega) (by decide)) hl.1 rfl (Nat.le_of_ble_eq_true rfl) (tX3_store  hc) dX3_move_91 (fun H locs J => ?_)
    refine lv_goto hx hb dX3_move_94 rfl ?_
    exact zr_vret X J hf dX3_move_167
  have hf := itn h3_ hf
  by_cases h4_ : a1_ = (4 : Int32)
  · have hf := itp h4_ hf
    rw [h4_]
    refine lv_tableIn hx hb dX3_move_1 (by decide) (by decide) (tgt := 97) (by rfl) (by decide) ?_
    refine lv_aload_n hx hb dX3_move_97 rfl (lv_at hl 0 rfl) ?_
    refine lv_aload_n hx hb dX3_move_98 rfl (lv_at hl 0 rfl) ?_
    refine lv_aload_n hx hb dX3_move_99 rfl (lv_at hl 0 rfl) ?_
    refine gf_X3_42 X J dX3_move_100 ?_
    refine lv_aload_n hx hb dX3_move_103 rfl (lv_at hl 0 rfl) ?_
    obtain ⟨r19, σ20, hc, hf⟩ := obd_some hf
    refine zr_calli (As := []) (rest := [.int (zI σ 7 5), .ref (ad 7), .ref (ad 7)]) X J 7 ho_C_X3.1 ho_C_X3.2.1 ho_C_X3.2.2 yy_X3_next mw_methodLink_TinyCMachine_96_TinyCMachine_next_I (d := 1) (zR_ok (by omega) (by decide)) hl.1 rfl (Nat.le_of_ble_eq_true rfl) (tX3_next  hc) dX3_move_104 (fun H locs J => ?_)
    refine lv_iadd hx hb dX3_move_107 ?_
    obtain ⟨r21, σ22, hc, hf⟩ := obd_some hf
    refine zr_calli (As := [.int ((zI σ 7 5) + r19)]) (rest := [.ref (ad 7)]) X J 7 ho_C_X3.1 ho_C_X3.2.1 ho_C_X3.2.2 yy_X3_load mw_methodLink_TinyCMachine_82_TinyCMachine_load_II (d := 0) (zR_ok (by omega) (by decide)) hl.1 rfl (Nat.le_of_ble_eq_true rfl) (tX3_load  hc) dX3_move_108 (fun H locs J => ?_)
    obtain ⟨r23, σ24, hc, hf⟩ := obd_some hf
    refine zr_callv (As := [.int r21]) (rest := []) X J 7 ho_C_X3.1 ho_C_X3.2.1 ho_C_X3.2.2 yy_X3_push mw_methodLink_TinyCMachine_69_TinyCMachine_push_IV (d := 0) (zR_ok (by omega) (by decide)) hl.1 rfl (Nat.le_of_ble_eq_true rfl) (tX3_push  hc) dX3_move_111 (fun H locs J => ?_)
    refine lv_goto hx hb dX3_move_114 rfl ?_
    exact zr_vret X J hf dX3_move_167
  have hf := itn h4_ hf
  by_cases h5_ : a1_ = (5 : Int32)
  · have hf := itp h5_ hf
    rw [h5_]
    refine lv_tableIn hx hb dX3_move_1 (by decide) (by decide) (tgt := 117) (by rfl) (by decide) ?_
    refine lv_aload_n hx hb dX3_move_117 rfl (lv_at hl 0 rfl) ?_
    refine lv_aload_n hx hb dX3_move_118 rfl (lv_at hl 0 rfl) ?_
    refine gf_X3_42 X J dX3_move_119 ?_
    refine lv_aload_n hx hb dX3_move_122 rfl (lv_at hl 0 rfl) ?_
    obtain ⟨r25, σ26, hc, hf⟩ := obd_some hf
    refine zr_calli (As := []) (rest := [.int (zI σ 7 5), .ref (ad 7)]) X J 7 ho_C_X3.1 ho_C_X3.2.1 ho_C_X3.2.2 yy_X3_next mw_methodLink_TinyCMachine_96_TinyCMachine_next_I (d := 1) (zR_ok (by omega) (by decide)) hl.1 rfl (Nat.le_of_ble_eq_true rfl) (tX3_next  hc) dX3_move_123 (fun H locs J => ?_)
    refine lv_iadd hx hb dX3_move_126 ?_
    refine lv_aload_n hx hb dX3_move_127 rfl (lv_at hl 0 rfl) ?_
    obtain ⟨r27, σ28, hc, hf⟩ := obd_some hf
    refine zr_calli (As := []) (rest := [.int ((zI σ 7 5) + r25), .ref (ad 7)]) X J 7 ho_C_X3.1 ho_C_X3.2.1 ho_C_X3.2.2 yy_X3_pop mw_methodLink_TinyCMachine_61_TinyCMachine_pop_I (d := 1) (zR_ok (by omega) (by decide)) hl.1 rfl (Nat.le_of_ble_eq_true rfl) (tX3_pop  hc) dX3_move_128 (fun H locs J => ?_)
    obtain ⟨r29, σ30, hc, hf⟩ := obd_some hf
    refine zr_callv (As := [.int ((zI σ 7 5) + r25), .int r27]) (rest := []) X J 7 ho_C_X3.1 ho_C_X3.2.1 ho_C_X3.2.2 yy_X3_store mw_methodLink_TinyCMachine_99_TinyCMachine_store_IIV (d := 0) (zR_ok (by omega) (by decide)) hl.1 rfl (Nat.le_of_ble_eq_true rfl) (tX3_store  hc) dX3_move_131 (fun H locs J => ?_)
    refine lv_goto hx hb dX3_move_134 rfl ?_
    exact zr_vret X J hf dX3_move_167
  have hf := itn h5_ hf
  by_cases h6_ : a1_ = (6 : Int32)
  · have hf := itp h6_ hf
    rw [h6_]
    refine lv_tableIn hx hb dX3_move_1 (by decide) (by decide) (tgt := 137) (by rfl) (by decide) ?_
    refine lv_aload_n hx hb dX3_move_137 rfl (lv_at hl 0 rfl) ?_
    refine lv_aload_n hx hb dX3_move_138 rfl (lv_at hl 0 rfl) ?_
    obtain ⟨r31, σ32, hc, hf⟩ := obd_some hf
    refine zr_calli (As := []) (rest := [.ref (ad 7)]) X J 7 ho_C_X3.1 ho_C_X3.2.1 ho_C_X3.2.2 yy_X3_next mw_methodLink_TinyCMachine_96_TinyCMachine_next_I (d := 1) (zR_ok (by omega) (by decide)) hl.1 rfl (Nat.le_of_ble_eq_true rfl) (tX3_next  hc) dX3_move_139 (fun H locs J => ?_)
    refine lv_aload_n hx hb dX3_move_142 rfl (lv_at hl 0 rfl) ?_
    obtain ⟨r33, σ34, hc, hf⟩ := obd_some hf
    refine zr_calli (As := []) (rest := [.int r31, .ref (ad 7)]) X J 7 ho_C_X3.1 ho_C_X3.2.1 ho_C_X3.2.2 yy_X3_next mw_methodLink_TinyCMachine_96_TinyCMachine_next_I (d := 1) (zR_ok (by omega) (by decide)) hl.1 rfl (Nat.le_of_ble_eq_true rfl) (tX3_next  hc) dX3_move_143 (fun H locs J => ?_)
    obtain ⟨r35, σ36, hc, hf⟩ := obd_some hf
    refine zr_callv (As := [.int r31, .int r33]) (rest := []) X J 7 ho_C_X3.1 ho_C_X3.2.1 ho_C_X3.2.2 yy_X3_loadItem mw_methodLink_TinyCMachine_103_TinyCMachine_loadItem_IIV (d := 2) (zR_ok (by omega) (by decide)) hl.1 rfl (Nat.le_of_ble_eq_true rfl) (tX3_loadItem  hc) dX3_move_146 (fun H locs J => ?_)
    refine lv_goto hx hb dX3_move_149 rfl ?_
    exact zr_vret X J hf dX3_move_167
  have hf := itn h6_ hf
  by_cases h7_ : a1_ = (7 : Int32)
  · have hf := itp h7_ hf
    rw [h7_]
    refine lv_tableIn hx hb dX3_move_1 (by decide) (by decide) (tgt := 152) (by rfl) (by decide) ?_
    refine lv_aload_n hx hb dX3_move_152 rfl (lv_at hl 0 rfl) ?_
    refine lv_aload_n hx hb dX3_move_153 rfl (lv_at hl 0 rfl) ?_
    obtain ⟨r37, σ38, hc, hf⟩ := obd_some hf
    refine zr_calli (As := []) (rest := [.ref (ad 7)]) X J 7 ho_C_X3.1 ho_C_X3.2.1 ho_C_X3.2.2 yy_X3_next mw_methodLink_TinyCMachine_96_TinyCMachine_next_I (d := 1) (zR_ok (by omega) (by decide)) hl.1 rfl (Nat.le_of_ble_eq_true rfl) (tX3_next  hc) dX3_move_154 (fun H locs J => ?_)
    refine lv_aload_n hx hb dX3_move_157 rfl (lv_at hl 0 rfl) ?_
    obtain ⟨r39, σ40, hc, hf⟩ := obd_some hf
    refine zr_calli (As := []) (rest := [.int r37, .ref (ad 7)]) X J 7 ho_C_X3.1 ho_C_X3.2.1 ho_C_X3.2.2 yy_X3_next mw_methodLink_TinyCMachine_96_TinyCMachine_next_I (d := 1) (zR_ok (by omega) (by decide)) hl.1 rfl (Nat.le_of_ble_eq_true rfl) (tX3_next  hc) dX3_move_158 (fun H locs J => ?_)
    obtain ⟨r41, σ42, hc, hf⟩ := obd_some hf
    refine zr_callv (As := [.int r37, .int r39]) (rest := []) X J 7 ho_C_X3.1 ho_C_X3.2.1 ho_C_X3.2.2 yy_X3_storeItem mw_methodLink_TinyCMachine_106_TinyCMachine_storeItem_IIV (d := 2) (zR_ok (by omega) (by decide)) hl.1 rfl (Nat.le_of_ble_eq_true rfl) (tX3_storeItem  hc) dX3_move_161 (fun H locs J => ?_)
    refine lv_goto hx hb dX3_move_164 rfl ?_
    exact zr_vret X J hf dX3_move_167
  have hf := itn h7_ hf
  refine lv_tableOut hx hb dX3_move_1 (tgt := 167) (by have := lv_neT h0_ (a := 0) (by decide); have := lv_neT h1_ (a := 1) (by decide); have := lv_neT h2_ (a := 2) (by decide); have := lv_neT h3_ (a := 3) (by decide); have := lv_neT h4_ (a := 4) (by decide); have := lv_neT h5_ (a := 5) (by decide); have := lv_neT h6_ (a := 6) (by decide); have := lv_neT h7_ (a := 7) (by decide); omega) (by decide) ?_
  exact zr_vret X J hf dX3_move_167
set_option maxHeartbeats 4000000 in
theorem bX3_execute_69 {o : Unit × zSt} (X : zX p s m args meth c D cy shC ad ts cX3_execute 2 none RX3)  {x1_ : Int32}  {σ : zSt} {H : Heap} {locs : List Loc} {ls : Array Slot} (J : zJ D cy shC ad ln s σ H locs) (hl : lv_has ls 2 [(0, .ref (ad 7)), (1, .int x1_)]) (hf : fX3_execute_b69 ln N M  x1_ σ = some o) : W p l e (zRm (4)) s m args below meth c H locs 0 0 (zQv D cy shC ad ts ln below args s o) (F0 m 69 ls []) := by
  have hx := X.1
  have hb := X.2.1
  unfold fX3_execute_b69 at hf
  refine lv_iload_n hx hb dX3_execute_69 rfl (lv_at hl 1 rfl) ?_
  refine lv_bipush (v := (30 : Int32)) hx hb dX3_execute_70 (by decide) ?_
  refine lv_icmp_lt hx hb dX3_execute_72 rfl (fun h => ?_) (fun h => ?_)
  · have hf := itp h hf
    refine lv_aload_n hx hb dX3_execute_83 rfl (lv_at hl 0 rfl) ?_
    refine lv_iload_n hx hb dX3_execute_84 rfl (lv_at hl 1 rfl) ?_
    obtain ⟨r5, σ6, hc, hf⟩ := obd_some hf
    refine zr_callv (As := [.int x1_]) (rest := []) X J 7 ho_C_X3.1 ho_C_X3.2.1 ho_C_X3.2.2 yy_X3_move mw_methodLink_TinyCMachine_79_TinyCMachine_move_IV (d := 3) (zR_ok (by omega) (by decide)) hl.1 rfl (Nat.le_of_ble_eq_true rfl) (tX3_move  hc) dX3_execute_85 (fun H locs J => ?_)
    exact zr_vret X J hf dX3_execute_88
  · have hf := itn h hf
    refine lv_aload_n hx hb dX3_execute_75 rfl (lv_at hl 0 rfl) ?_
    refine lv_iload_n hx hb dX3_execute_76 rfl (lv_at hl 1 rfl) ?_
    obtain ⟨r7, σ8, hc, hf⟩ := obd_some hf
    refine zr_callv (As := [.int x1_]) (rest := []) X J 7 ho_C_X3.1 ho_C_X3.2.1 ho_C_X3.2.2 yy_X3_control mw_methodLink_TinyCMachine_76_TinyCMachine_control_IV (d := 3) (zR_ok (by omega) (by decide)) hl.1 rfl (Nat.le_of_ble_eq_true rfl) (tX3_control  hc) dX3_execute_77 (fun H locs J => ?_)
    refine lv_goto hx hb dX3_execute_80 rfl ?_
    exact zr_vret X J hf dX3_execute_88
set_option maxHeartbeats 4000000 in
theorem bX3_execute_49 {o : Unit × zSt} (X : zX p s m args meth c D cy shC ad ts cX3_execute 2 none RX3)  {x1_ : Int32}  {σ : zSt} {H : Heap} {locs : List Loc} {ls : Array Slot} (J : zJ D cy shC ad ln s σ H locs) (hl : lv_has ls 2 [(0, .ref (ad 7)), (1, .int x1_)]) (hf : fX3_execute_b49 ln N M  x1_ σ = some o) : W p l e (zRm (4)) s m args below meth c H locs 0 0 (zQv D cy shC ad ts ln below args s o) (F0 m 49 ls []) := by
  have hx := X.1
  have hb := X.2.1
  unfold fX3_execute_b49 at hf
  refine lv_iload_n hx hb dX3_execute_49 rfl (lv_at hl 1 rfl) ?_
  refine lv_bipush (v := (10 : Int32)) hx hb dX3_execute_50 (by decide) ?_
  refine lv_icmp_lt hx hb dX3_execute_52 rfl (fun h => ?_) (fun h => ?_)
  · have hf := itp h hf
    exact bX3_execute_69 X   J (lv_sub hl [0, 1] rfl) hf
  · have hf := itn h hf
    refine lv_iload_n hx hb dX3_execute_55 rfl (lv_at hl 1 rfl) ?_
    refine lv_bipush (v := (28 : Int32)) hx hb dX3_execute_56 (by decide) ?_
    refine lv_icmp_gt hx hb dX3_execute_58 rfl (fun h => ?_) (fun h => ?_)
    · have hf := itp h hf
      exact bX3_execute_69 X   J (lv_sub hl [0, 1] rfl) hf
    · have hf := itn h hf
      refine lv_aload_n hx hb dX3_execute_61 rfl (lv_at hl 0 rfl) ?_
      refine lv_iload_n hx hb dX3_execute_62 rfl (lv_at hl 1 rfl) ?_
      obtain ⟨r9, σ10, hc, hf⟩ := obd_some hf
      refine zr_callv (As := [.int x1_]) (rest := []) X J 7 ho_C_X3.1 ho_C_X3.2.1 ho_C_X3.2.2 yy_X3_join mw_methodLink_TinyCMachine_73_TinyCMachine_join_IV (d := 2) (zR_ok (by omega) (by decide)) hl.1 rfl (Nat.le_of_ble_eq_true rfl) (tX3_join  hc) dX3_execute_63 (fun H locs J => ?_)
      refine lv_goto hx hb dX3_execute_66 rfl ?_
      exact zr_vret X J hf dX3_execute_88
set_option maxHeartbeats 4000000 in
theorem tX3_execute   {σ u : zSt} {r : Unit} (hf : fX3_execute ln N M  σ = some (r, u)) : zMv l yX3_execute cX3_execute 2 none (4) D cy shC ad ts ln [.ref (ad 7)] σ u := by
  refine zM_of (by decide) (Nat.le_of_ble_eq_true rfl) (fun p e s m args below meth c ls ha X J hl => ?_)
  have hx := X.1
  have hb := X.2.1
  have hl : lv_has ls 2 [(0, .ref (ad 7))] := hl
  generalize s.heap = H at J ⊢
  generalize ([] : List Loc) = locs at J ⊢
  show W p l e (zRm (4)) s m args below meth c H locs 0 0 (zQv D cy shC ad ts ln below args s (r, u)) (F0 m 0 ls [])
  unfold fX3_execute at hf
  refine lv_aload_n hx hb dX3_execute_0 rfl (lv_at hl 0 rfl) ?_
  obtain ⟨q1, hq1, er, hf⟩ := rbd_some hf
  refine gf_X3_25 X J er dX3_execute_1 ?_
  refine lv_aload_n hx hb dX3_execute_4 rfl (lv_at hl 0 rfl) ?_
  refine gf_X3_32 X J dX3_execute_5 ?_
  obtain ⟨r2, σ3, hc, hf⟩ := obd_some hf
  refine zr_callNi (As := [.int (zI σ 7 3)]) (rest := []) X J q1 (ho_C_X0 hq1).1 (ho_C_X0 hq1).2.1 (ho_C_X0 hq1).2.2 yy_X0_at mw_methodLinkNest_TinyCMachine_55_TinyCCode_at_II_TinyC (d := 0) (zR_ok (by omega) (by decide)) hl.1 rfl (Nat.le_of_ble_eq_true rfl) (tX0_at hq1 hc) dX3_execute_8 (fun H locs J => ?_)
  refine lv_istore_n hx hb dX3_execute_11 rfl hl (by decide) rfl (fun ls hl => ?_)
  have hl : lv_has ls 2 [(1, .int r2), (0, .ref (ad 7))] := hl
  refine lv_aload_n hx hb dX3_execute_12 rfl (lv_at hl 1 rfl) ?_
  refine lv_dup hx hb dX3_execute_13 rfl ?_
  refine gf_X3_32 X J dX3_execute_14 ?_
  refine lv_iconst (v := (1 : Int32)) hx hb dX3_execute_17 (by decide) ?_
  refine lv_iadd hx hb dX3_execute_18 ?_
  refine pf_X3_32 X J dX3_execute_19 (fun σ4 H locs eq J => ?_)
  have hf := bnd_eq eq hf
  clear eq
  refine lv_iload_n hx hb dX3_execute_22 rfl (lv_at hl 0 rfl) ?_
  refine lv_bipush (v := (24 : Int32)) hx hb dX3_execute_23 (by decide) ?_
  refine lv_icmp_lt hx hb dX3_execute_25 rfl (fun h => ?_) (fun h => ?_)
  · have hf := itp h hf
    exact bX3_execute_49 X   J (lv_sub hl [1, 0] rfl) hf
  · have hf := itn h hf
    refine lv_iload_n hx hb dX3_execute_28 rfl (lv_at hl 0 rfl) ?_
    refine lv_bipush (v := (26 : Int32)) hx hb dX3_execute_29 (by decide) ?_
    refine lv_icmp_gt hx hb dX3_execute_31 rfl (fun h => ?_) (fun h => ?_)
    · have hf := itp h hf
      exact bX3_execute_49 X   J (lv_sub hl [1, 0] rfl) hf
    · have hf := itn h hf
      refine lv_aload_n hx hb dX3_execute_34 rfl (lv_at hl 1 rfl) ?_
      refine lv_iload_n hx hb dX3_execute_35 rfl (lv_at hl 0 rfl) ?_
      refine lv_aload_n hx hb dX3_execute_36 rfl (lv_at hl 1 rfl) ?_
      obtain ⟨r11, σ12, hc, hf⟩ := obd_some hf
      refine zr_calli (As := []) (rest := [.int r2, .ref (ad 7)]) X J 7 ho_C_X3.1 ho_C_X3.2.1 ho_C_X3.2.2 yy_X3_pop mw_methodLink_TinyCMachine_61_TinyCMachine_pop_I (d := 1) (zR_ok (by omega) (by decide)) hl.1 rfl (Nat.le_of_ble_eq_true rfl) (tX3_pop  hc) dX3_execute_37 (fun H locs J => ?_)
      obtain ⟨r13, σ14, hc, hf⟩ := obd_some hf
      refine zr_callTi (As := [.int r2, .int r11]) (rest := [.ref (ad 7)]) X J yy_X11_ofOne mw_methodLinkNest_TinyCMachine_65_TinyC_ofOne_III_TinyC (d := 0) (zR_ok (by omega) (by decide)) hl.1 rfl (Nat.le_of_ble_eq_true rfl) (tX11_ofOne  hc) dX3_execute_40 (fun H locs J => ?_)
      obtain ⟨r15, σ16, hc, hf⟩ := obd_some hf
      refine zr_callv (As := [.int r13]) (rest := []) X J 7 ho_C_X3.1 ho_C_X3.2.1 ho_C_X3.2.2 yy_X3_push mw_methodLink_TinyCMachine_69_TinyCMachine_push_IV (d := 0) (zR_ok (by omega) (by decide)) hl.1 rfl (Nat.le_of_ble_eq_true rfl) (tX3_push  hc) dX3_execute_43 (fun H locs J => ?_)
      refine lv_goto hx hb dX3_execute_46 rfl ?_
      exact zr_vret X J hf dX3_execute_88
set_option maxHeartbeats 4000000 in
theorem bX3_goOn_45 {o : Int32 × zSt} (X : zX p s m args meth c D cy shC ad ts cX3_goOn 3 (some .int) RX3) {k2 : Int32 → Int32 → zSt → Option (Int32 × zSt)} (hk2 : ∀ (x1_ : Int32) (x2_ : Int32) (σ : zSt) (H : Heap) (locs : List Loc) (ls : Array Slot), zJ D cy shC ad ln s σ H locs → lv_has ls 3 [(0, .ref (ad 7)), (1, .int x1_), (2, .int x2_)] → k2 x1_ x2_ σ = some o → W p l e (zRm (5)) s m args below meth c H locs 0 0 (zQi D cy shC ad ts ln below args s o) (F0 m 2 ls [])) {x1_ : Int32} {x2_ : Int32}  {σ : zSt} {H : Heap} {locs : List Loc} {ls : Array Slot} (J : zJ D cy shC ad ln s σ H locs) (hl : lv_has ls 3 [(0, .ref (ad 7)), (1, .int x1_), (2, .int x2_)]) (hf : fX3_goOn_b45 ln N M k2 x1_ x2_ σ = some o) : W p l e (zRm (5)) s m args below meth c H locs 0 0 (zQi D cy shC ad ts ln below args s o) (F0 m 45 ls []) := by
  have hx := X.1
  have hb := X.2.1
  unfold fX3_goOn_b45 at hf
  refine lv_aload_n hx hb dX3_goOn_45 rfl (lv_at hl 0 rfl) ?_
  refine lv_iconst (v := (1 : Int32)) hx hb dX3_goOn_46 (by decide) ?_
  refine pf_X3_48 X J (by decide) dX3_goOn_47 (fun σ4 H locs eq J => ?_)
  have hf := bnd_eq eq hf
  clear eq
  obtain ⟨x5, eq⟩ : ∃ z, z = x2_ + (1 : Int32) := ⟨_, rfl⟩
  have hf := bnd_eq eq hf
  refine lv_iinc hx hb dX3_goOn_50 hl (k := 2) rfl (v := x5) (by rw [eq]; rfl) (by decide) rfl (fun ls hl => ?_)
  clear eq
  have hl : lv_has ls 3 [(2, .int x5), (0, .ref (ad 7)), (1, .int x1_)] := hl
  refine lv_goto hx hb dX3_goOn_53 rfl ?_
  exact hk2 _ _ _ _ _ _ J (lv_sub hl [1, 2, 0] rfl) hf
set_option maxHeartbeats 4000000 in
theorem bX3_goOn_41 {o : Int32 × zSt} (X : zX p s m args meth c D cy shC ad ts cX3_goOn 3 (some .int) RX3) {k2 : Int32 → Int32 → zSt → Option (Int32 × zSt)} (hk2 : ∀ (x1_ : Int32) (x2_ : Int32) (σ : zSt) (H : Heap) (locs : List Loc) (ls : Array Slot), zJ D cy shC ad ln s σ H locs → lv_has ls 3 [(0, .ref (ad 7)), (1, .int x1_), (2, .int x2_)] → k2 x1_ x2_ σ = some o → W p l e (zRm (5)) s m args below meth c H locs 0 0 (zQi D cy shC ad ts ln below args s o) (F0 m 2 ls [])) {x1_ : Int32} {x2_ : Int32}  {σ : zSt} {H : Heap} {locs : List Loc} {ls : Array Slot} (J : zJ D cy shC ad ln s σ H locs) (hl : lv_has ls 3 [(0, .ref (ad 7)), (1, .int x1_), (2, .int x2_)]) (hf : fX3_goOn_b41 ln N M k2 x1_ x2_ σ = some o) : W p l e (zRm (5)) s m args below meth c H locs 0 0 (zQi D cy shC ad ts ln below args s o) (F0 m 41 ls []) := by
  have hx := X.1
  have hb := X.2.1
  unfold fX3_goOn_b41 at hf
  refine lv_aload_n hx hb dX3_goOn_41 rfl (lv_at hl 0 rfl) ?_
  obtain ⟨r2, σ3, hc, hf⟩ := obd_some hf
  refine zr_callv (As := []) (rest := []) X J 7 ho_C_X3.1 ho_C_X3.2.1 ho_C_X3.2.2 yy_X3_execute mw_methodLink_TinyCMachine_52_TinyCMachine_execute_V (d := 4) (zR_ok (by omega) (by decide)) hl.1 rfl (Nat.le_of_ble_eq_true rfl) (tX3_execute  hc) dX3_goOn_42 (fun H locs J => ?_)
  exact bX3_goOn_45 X hk2  J (lv_sub hl [0, 1, 2] rfl) hf
set_option maxHeartbeats 4000000 in
theorem bX3_goOn_2 {o : Int32 × zSt} (X : zX p s m args meth c D cy shC ad ts cX3_goOn 3 (some .int) RX3)  : ∀ (n : Nat) (x1_ : Int32) (x2_ : Int32) (σ : zSt) (H : Heap) (locs : List Loc) (ls : Array Slot), zJ D cy shC ad ln s σ H locs → lv_has ls 3 [(0, .ref (ad 7)), (1, .int x1_), (2, .int x2_)] → fX3_goOn_b2 ln N M  n x1_ x2_ σ = some o → W p l e (zRm (5)) s m args below meth c H locs 0 0 (zQi D cy shC ad ts ln below args s o) (F0 m 2 ls []) := by
  have hx := X.1
  have hb := X.2.1
  intro n
  induction n with
  | zero =>
    intro x1_ x2_ σ H locs ls J hl hf
    rw [fX3_goOn_b2] at hf
    cases hf
  | succ n ih =>
    intro x1_ x2_ σ H locs ls J hl hf
    rw [fX3_goOn_b2] at hf
    refine lv_iload_n hx hb dX3_goOn_2 rfl (lv_at hl 2 rfl) ?_
    refine lv_iload_n hx hb dX3_goOn_3 rfl (lv_at hl 1 rfl) ?_
    refine lv_icmp_ge hx hb dX3_goOn_4 rfl (fun h => ?_) (fun h => ?_)
    · have hf := itp h hf
      refine lv_aload_n hx hb dX3_goOn_56 rfl (lv_at hl 0 rfl) ?_
      refine gf_X3_45 X J dX3_goOn_57 ?_
      exact zr_iret X J hf dX3_goOn_60
    · have hf := itn h hf
      refine lv_aload_n hx hb dX3_goOn_7 rfl (lv_at hl 0 rfl) ?_
      refine gf_X3_45 X J dX3_goOn_8 ?_
      refine lv_if_ne hx hb dX3_goOn_11 rfl (fun h => ?_) (fun h => ?_)
      · have hf := itn h hf
        refine lv_aload_n hx hb dX3_goOn_56 rfl (lv_at hl 0 rfl) ?_
        refine gf_X3_45 X J dX3_goOn_57 ?_
        exact zr_iret X J hf dX3_goOn_60
      · have hf := itp h hf
        refine lv_aload_n hx hb dX3_goOn_14 rfl (lv_at hl 0 rfl) ?_
        refine gf_X3_48 X J dX3_goOn_15 ?_
        refine lv_if_ne hx hb dX3_goOn_18 rfl (fun h => ?_) (fun h => ?_)
        · have hf := itn h hf
          exact bX3_goOn_41 X ih  J (lv_sub hl [0, 1, 2] rfl) hf
        · have hf := itp h hf
          refine lv_aload_n hx hb dX3_goOn_21 rfl (lv_at hl 0 rfl) ?_
          refine gf_X3_39 X J dX3_goOn_22 ?_
          refine lv_aload_n hx hb dX3_goOn_25 rfl (lv_at hl 0 rfl) ?_
          refine gf_X3_9 X J dX3_goOn_26 ?_
          refine an_X3_X3f0 X J dX3_goOn_29 ?_
          refine lv_icmp_le hx hb dX3_goOn_30 rfl (fun h => ?_) (fun h => ?_)
          · have hf := itp h hf
            exact bX3_goOn_41 X ih  J (lv_sub hl [0, 1, 2] rfl) hf
          · have hf := itn h hf
            refine lv_aload_n hx hb dX3_goOn_33 rfl (lv_at hl 0 rfl) ?_
            refine lv_iconst (v := (4 : Int32)) hx hb dX3_goOn_34 (by decide) ?_
            refine pf_X3_45 X J dX3_goOn_35 (fun σ6 H locs eq J => ?_)
            have hf := bnd_eq eq hf
            clear eq
            refine lv_goto hx hb dX3_goOn_38 rfl ?_
            exact bX3_goOn_45 X ih  J (lv_sub hl [0, 1, 2] rfl) hf
set_option maxHeartbeats 4000000 in
theorem tX3_goOn {a1_ : Int32}  {σ u : zSt} {r : Int32} (hf : fX3_goOn ln N M a1_ σ = some (r, u)) : zMi l yX3_goOn cX3_goOn 3 (some .int) (5) D cy shC ad ts ln [.ref (ad 7), .int a1_] σ r u := by
  refine zM_of (by decide) (Nat.le_of_ble_eq_true rfl) (fun p e s m args below meth c ls ha X J hl => ?_)
  have hx := X.1
  have hb := X.2.1
  have hl : lv_has ls 3 [(0, .ref (ad 7)), (1, .int a1_)] := hl
  generalize s.heap = H at J ⊢
  generalize ([] : List Loc) = locs at J ⊢
  show W p l e (zRm (5)) s m args below meth c H locs 0 0 (zQi D cy shC ad ts ln below args s (r, u)) (F0 m 0 ls [])
  unfold fX3_goOn at hf
  refine lv_iconst (v := (0 : Int32)) hx hb dX3_goOn_0 (by decide) ?_
  refine lv_topi (fun x1 eq => ?_)
  have hf := bnd_eq eq hf
  clear eq
  refine lv_istore_n hx hb dX3_goOn_1 rfl hl (by decide) rfl (fun ls hl => ?_)
  have hl : lv_has ls 3 [(2, .int x1), (0, .ref (ad 7)), (1, .int a1_)] := hl
  exact bX3_goOn_2 X  N _ _ _ _ _ _ J (lv_sub hl [1, 2, 0] rfl) hf
set_option maxHeartbeats 4000000 in
theorem tX11_goOnMachine {a1_ : Int32}  {σ u : zSt} {r : Int32} (hf : fX11_goOnMachine ln N M a1_ σ = some (r, u)) : zMi l yX11_goOnMachine cX11_goOnMachine 2 (some .int) (6) D cy shC ad ts ln [.ref (ad 0), .int a1_] σ r u := by
  refine zM_of (by decide) (Nat.le_of_ble_eq_true rfl) (fun p e s m args below meth c ls ha X J hl => ?_)
  have hx := X.1
  have hb := X.2.1
  have hl : lv_has ls 2 [(0, .ref (ad 0)), (1, .int a1_)] := hl
  generalize s.heap = H at J ⊢
  generalize ([] : List Loc) = locs at J ⊢
  show W p l e (zRm (6)) s m args below meth c H locs 0 0 (zQi D cy shC ad ts ln below args s (r, u)) (F0 m 0 ls [])
  unfold fX11_goOnMachine at hf
  refine lv_aload_n hx hb dX11_goOnMachine_0 rfl (lv_at hl 0 rfl) ?_
  obtain ⟨q1, hq1, er, hf⟩ := rbd_some hf
  refine gf_X11_44 X J er dX11_goOnMachine_1 ?_
  refine gf_X11_105 hq1 X J dX11_goOnMachine_4 ?_
  refine lv_if_ne hx hb dX11_goOnMachine_7 rfl (fun h => ?_) (fun h => ?_)
  · have hf := itn h hf
    refine lv_aload_n hx hb dX11_goOnMachine_12 rfl (lv_at hl 0 rfl) ?_
    refine gf_X11_70 X J dX11_goOnMachine_13 ?_
    refine gf_X11_134 X J dX11_goOnMachine_16 ?_
    refine lv_if_eq hx hb dX11_goOnMachine_19 rfl (fun h => ?_) (fun h => ?_)
    · have hf := itp h hf
      refine lv_aload_n hx hb dX11_goOnMachine_25 rfl (lv_at hl 0 rfl) ?_
      refine gf_X11_63 X J dX11_goOnMachine_26 ?_
      refine lv_iload_n hx hb dX11_goOnMachine_29 rfl (lv_at hl 1 rfl) ?_
      obtain ⟨r2, σ3, hc, hf⟩ := obd_some hf
      refine zr_callNi (As := [.int a1_]) (rest := []) X J 7 ho_C_X3.1 ho_C_X3.2.1 ho_C_X3.2.2 yy_X3_goOn mw_methodLinkNest_TinyC_135_TinyCMachine_goOn_II_TinyC (d := 5) (zR_ok (by omega) (by decide)) hl.1 rfl (Nat.le_of_ble_eq_true rfl) (tX3_goOn  hc) dX11_goOnMachine_30 (fun H locs J => ?_)
      exact zr_iret X J hf dX11_goOnMachine_33
    · have hf := itn h hf
      refine lv_bipush (v := (-2 : Int32)) hx hb dX11_goOnMachine_22 (by decide) ?_
      exact zr_iret X J hf dX11_goOnMachine_24
  · have hf := itp h hf
    refine lv_iconst (v := (-1 : Int32)) hx hb dX11_goOnMachine_10 (by decide) ?_
    exact zr_iret X J hf dX11_goOnMachine_11
set_option maxHeartbeats 4000000 in
theorem tX11_step   {σ u : zSt} {r : Int32} (hf : fX11_step ln N M  σ = some (r, u)) : zMi l yX11_step cX11_step 1 (some .int) (7) D cy shC ad ts ln [.ref (ad 0)] σ r u := by
  refine zM_of (by decide) (Nat.le_of_ble_eq_true rfl) (fun p e s m args below meth c ls ha X J hl => ?_)
  have hx := X.1
  have hb := X.2.1
  have hl : lv_has ls 1 [(0, .ref (ad 0))] := hl
  generalize s.heap = H at J ⊢
  generalize ([] : List Loc) = locs at J ⊢
  show W p l e (zRm (7)) s m args below meth c H locs 0 0 (zQi D cy shC ad ts ln below args s (r, u)) (F0 m 0 ls [])
  unfold fX11_step at hf
  refine lv_aload_n hx hb dX11_step_0 rfl (lv_at hl 0 rfl) ?_
  refine lv_iconst (v := (1 : Int32)) hx hb dX11_step_1 (by decide) ?_
  obtain ⟨r1, σ2, hc, hf⟩ := obd_some hf
  refine zr_calli (As := [.int (1 : Int32)]) (rest := []) X J 0 ho_C_X11.1 ho_C_X11.2.1 ho_C_X11.2.2 yy_X11_goOnMachine mw_methodLink_TinyC_102_TinyC_goOnMachine_II (d := 6) (zR_ok (by omega) (by decide)) hl.1 rfl (Nat.le_of_ble_eq_true rfl) (tX11_goOnMachine  hc) dX11_step_2 (fun H locs J => ?_)
  exact zr_iret X J hf dX11_step_5
set_option maxHeartbeats 4000000 in
theorem tX11_run {a1_ : Int32}  {σ u : zSt} {r : Int32} (hf : fX11_run ln N M a1_ σ = some (r, u)) : zMi l yX11_run cX11_run 2 (some .int) (7) D cy shC ad ts ln [.ref (ad 0), .int a1_] σ r u := by
  refine zM_of (by decide) (Nat.le_of_ble_eq_true rfl) (fun p e s m args below meth c ls ha X J hl => ?_)
  have hx := X.1
  have hb := X.2.1
  have hl : lv_has ls 2 [(0, .ref (ad 0)), (1, .int a1_)] := hl
  generalize s.heap = H at J ⊢
  generalize ([] : List Loc) = locs at J ⊢
  show W p l e (zRm (7)) s m args below meth c H locs 0 0 (zQi D cy shC ad ts ln below args s (r, u)) (F0 m 0 ls [])
  unfold fX11_run at hf
  refine lv_aload_n hx hb dX11_run_0 rfl (lv_at hl 0 rfl) ?_
  refine lv_iload_n hx hb dX11_run_1 rfl (lv_at hl 1 rfl) ?_
  obtain ⟨r1, σ2, hc, hf⟩ := obd_some hf
  refine zr_calli (As := [.int a1_]) (rest := []) X J 0 ho_C_X11.1 ho_C_X11.2.1 ho_C_X11.2.2 yy_X11_goOnMachine mw_methodLink_TinyC_102_TinyC_goOnMachine_II (d := 6) (zR_ok (by omega) (by decide)) hl.1 rfl (Nat.le_of_ble_eq_true rfl) (tX11_goOnMachine  hc) dX11_run_2 (fun H locs J => ?_)
  exact zr_iret X J hf dX11_run_5
set_option maxHeartbeats 4000000 in
theorem tX9_kindOf {q_ : Nat} (hq_ : q_ = 11 ∨ q_ = 12) {a1_ : Int32}  {σ u : zSt} {r : Int32} (hf : fX9_kindOf ln N M q_ a1_ σ = some (r, u)) : zMi l yX9_kindOf cX9_kindOf 2 (some .int) (0) D cy shC ad ts ln [.ref (ad q_), .int a1_] σ r u := by
  refine zM_of (by decide) (Nat.le_of_ble_eq_true rfl) (fun p e s m args below meth c ls ha X J hl => ?_)
  have hx := X.1
  have hb := X.2.1
  have hl : lv_has ls 2 [(0, .ref (ad q_)), (1, .int a1_)] := hl
  generalize s.heap = H at J ⊢
  generalize ([] : List Loc) = locs at J ⊢
  show W p l e (zRm (0)) s m args below meth c H locs 0 0 (zQi D cy shC ad ts ln below args s (r, u)) (F0 m 0 ls [])
  unfold fX9_kindOf at hf
  refine lv_iload_n hx hb dX9_kindOf_0 rfl (lv_at hl 1 rfl) ?_
  refine lv_if_lt hx hb dX9_kindOf_1 rfl (fun h => ?_) (fun h => ?_)
  · have hf := itp h hf
    refine lv_iconst (v := (0 : Int32)) hx hb dX9_kindOf_21 (by decide) ?_
    exact zr_iret X J hf dX9_kindOf_22
  · have hf := itn h hf
    refine lv_iload_n hx hb dX9_kindOf_4 rfl (lv_at hl 1 rfl) ?_
    refine lv_aload_n hx hb dX9_kindOf_5 rfl (lv_at hl 0 rfl) ?_
    refine gf_X9_28 hq_ X J dX9_kindOf_6 ?_
    refine lv_icmp_ge hx hb dX9_kindOf_9 rfl (fun h => ?_) (fun h => ?_)
    · have hf := itp h hf
      refine lv_iconst (v := (0 : Int32)) hx hb dX9_kindOf_21 (by decide) ?_
      exact zr_iret X J hf dX9_kindOf_22
    · have hf := itn h hf
      refine lv_aload_n hx hb dX9_kindOf_12 rfl (lv_at hl 0 rfl) ?_
      refine gf_X9_7 hq_ X J dX9_kindOf_13 ?_
      refine lv_iload_n hx hb dX9_kindOf_16 rfl (lv_at hl 1 rfl) ?_
      obtain ⟨hin, hf⟩ := itx hf
      refine al_X9_X9f0 hq_ X J hin dX9_kindOf_17 ?_
      refine lv_goto hx hb dX9_kindOf_18 rfl ?_
      exact zr_iret X J hf dX9_kindOf_22
end
