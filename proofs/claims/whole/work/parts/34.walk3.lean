section
variable {p : Program} {l : Launch} {e : Env} {s : State} {m : MethodId} {args : Array Value} {below : List Frame} {meth : Method} {c : Code} {D : va_G} {cy : Nat → ClassId} {ad ts : Nat → Nat} {ln : Nat → Nat} {N M : Nat}
set_option maxHeartbeats 4000000 in
theorem bX2_joinAll_92 {o : Int32 × zSt} (X : zX p s m args meth c D cy shC ad ts cX2_joinAll 7 (some .int) RX2) {k11 : Int32 → Int32 → Int32 → Int32 → zSt → Option (Int32 × zSt)} (hk11 : ∀ (x2_ : Int32) (x3_ : Int32) (x4_ : Int32) (x5_ : Int32) (σ : zSt) (H : Heap) (locs : List Loc) (ls : Array Slot), zJ D cy shC ad ln s σ H locs → lv_has ls 7 [(0, .ref (ad 5)), (2, .int x2_), (3, .int x3_), (4, .int x4_), (5, .int x5_)] → k11 x2_ x3_ x4_ x5_ σ = some o → W p l e (zRm (2)) s m args below meth c H locs 0 0 (zQi D cy shC ad ts ln below args s o) (F0 m 11 ls [])) {x2_ : Int32} {x3_ : Int32} {x4_ : Int32} {x5_ : Int32} {x6_ : Int32}  {σ : zSt} {H : Heap} {locs : List Loc} {ls : Array Slot} (J : zJ D cy shC ad ln s σ H locs) (hl : lv_has ls 7 [(0, .ref (ad 5)), (2, .int x2_), (3, .int x3_), (4, .int x4_), (5, .int x5_), (6, .int x6_)]) (hf : fX2_joinAll_b92 ln N M k11 x2_ x3_ x4_ x5_ x6_ σ = some o) : W p l e (zRm (2)) s m args below meth c H locs 0 0 (zQi D cy shC ad ts ln below args s o) (F0 m 92 ls []) := by
  have hx := X.1
  have hb := X.2.1
  unfold fX2_joinAll_b92 at hf
  refine lv_aload_n hx hb dX2_joinAll_92 rfl (lv_at hl 0 rfl) ?_
  obtain ⟨q7, hq7, er, hf⟩ := rbd_some hf
  refine gf_X2_43 X J er dX2_joinAll_93 ?_
  refine lv_bipush (v := (7 : Int32)) hx hb dX2_joinAll_96 (by decide) ?_
  refine lv_iload hx hb dX2_joinAll_98 (lv_at hl 5 rfl) ?_
  refine lv_aload_n hx hb dX2_joinAll_100 rfl (lv_at hl 0 rfl) ?_
  refine gf_X2_31 X J dX2_joinAll_101 ?_
  refine lv_iload hx hb dX2_joinAll_104 (lv_at hl 4 rfl) ?_
  obtain ⟨hin, hf⟩ := itx hf
  refine al_X2_X2f4 X J hin dX2_joinAll_106 ?_
  refine lv_iload hx hb dX2_joinAll_107 (lv_at hl 3 rfl) ?_
  obtain ⟨r8, σ9, hc, hf⟩ := obd_some hf
  refine zr_callNi (As := [.int (7 : Int32), .int x6_, .int (zA σ 22 x5_.toNatClampNeg), .int x4_]) (rest := []) X J q7 (ho_C_X9 hq7).1 (ho_C_X9 hq7).2.1 (ho_C_X9 hq7).2.2 yy_X9_add mw_methodLinkNest_TinyCExpressions_116_TinyCTree_add_IIIII_TinyC (d := 0) (zR_ok (by omega) (by decide)) hl.1 rfl (Nat.le_of_ble_eq_true rfl) (tX9_add hq7 hc) dX2_joinAll_109 (fun H locs J => ?_)
  refine lv_istore hx hb dX2_joinAll_112 hl (by decide) rfl (fun ls hl => ?_)
  have hl : lv_has ls 7 [(4, .int r8), (0, .ref (ad 5)), (2, .int x2_), (3, .int x3_), (5, .int x5_), (6, .int x6_)] := hl
  refine lv_aload_n hx hb dX2_joinAll_114 rfl (lv_at hl 1 rfl) ?_
  refine lv_iload hx hb dX2_joinAll_115 (lv_at hl 4 rfl) ?_
  refine pf_X2_49 X J dX2_joinAll_117 (fun σ10 H locs eq J => ?_)
  have hf := bnd_eq eq hf
  clear eq
  obtain ⟨x11, eq⟩ : ∃ z, z = x5_ + (-1 : Int32) := ⟨_, rfl⟩
  have hf := bnd_eq eq hf
  refine lv_iinc hx hb dX2_joinAll_120 hl (k := 4) rfl (v := x11) (by rw [eq]; rfl) (by decide) rfl (fun ls hl => ?_)
  clear eq
  have hl : lv_has ls 7 [(5, .int x11), (4, .int r8), (0, .ref (ad 5)), (2, .int x2_), (3, .int x3_), (6, .int x6_)] := hl
  refine lv_goto hx hb dX2_joinAll_123 rfl ?_
  exact hk11 _ _ _ _ _ _ _ _ J (lv_sub hl [2, 3, 4, 1, 0] rfl) hf
set_option maxHeartbeats 4000000 in
theorem bX2_joinAll_67 {o : Int32 × zSt} (X : zX p s m args meth c D cy shC ad ts cX2_joinAll 7 (some .int) RX2) {k11 : Int32 → Int32 → Int32 → Int32 → zSt → Option (Int32 × zSt)} (hk11 : ∀ (x2_ : Int32) (x3_ : Int32) (x4_ : Int32) (x5_ : Int32) (σ : zSt) (H : Heap) (locs : List Loc) (ls : Array Slot), zJ D cy shC ad ln s σ H locs → lv_has ls 7 [(0, .ref (ad 5)), (2, .int x2_), (3, .int x3_), (4, .int x4_), (5, .int x5_)] → k11 x2_ x3_ x4_ x5_ σ = some o → W p l e (zRm (2)) s m args below meth c H locs 0 0 (zQi D cy shC ad ts ln below args s o) (F0 m 11 ls [])) {x2_ : Int32} {x3_ : Int32} {x4_ : Int32} {x5_ : Int32} {x6_ : Int32}  {σ : zSt} {H : Heap} {locs : List Loc} {ls : Array Slot} (J : zJ D cy shC ad ln s σ H locs) (hl : lv_has ls 7 [(0, .ref (ad 5)), (2, .int x2_), (3, .int x3_), (4, .int x4_), (5, .int x5_), (6, .int x6_)]) (hf : fX2_joinAll_b67 ln N M k11 x2_ x3_ x4_ x5_ x6_ σ = some o) : W p l e (zRm (2)) s m args below meth c H locs 0 0 (zQi D cy shC ad ts ln below args s o) (F0 m 67 ls []) := by
  have hx := X.1
  have hb := X.2.1
  unfold fX2_joinAll_b67 at hf
  refine lv_aload_n hx hb dX2_joinAll_67 rfl (lv_at hl 0 rfl) ?_
  refine lv_iload hx hb dX2_joinAll_68 (lv_at hl 5 rfl) ?_
  refine lv_aload_n hx hb dX2_joinAll_70 rfl (lv_at hl 0 rfl) ?_
  refine gf_X2_34 X J dX2_joinAll_71 ?_
  refine lv_iload hx hb dX2_joinAll_74 (lv_at hl 4 rfl) ?_
  obtain ⟨hin, hf⟩ := itx hf
  refine al_X2_X2f5 X J hin dX2_joinAll_76 ?_
  obtain ⟨r5, σ6, hc, hf⟩ := obd_some hf
  refine zr_callv (As := [.int x6_, .int (zA σ 23 x5_.toNatClampNeg)]) (rest := []) X J 5 ho_C_X2.1 ho_C_X2.2.1 ho_C_X2.2.2 yy_X2_endChoice mw_methodLink_TinyCExpressions_133_TinyCExpressions_endChoice_IIV (d := 1) (zR_ok (by omega) (by decide)) hl.1 rfl (Nat.le_of_ble_eq_true rfl) (tX2_endChoice  hc) dX2_joinAll_77 (fun H locs J => ?_)
  refine lv_goto hx hb dX2_joinAll_80 rfl ?_
  exact bX2_joinAll_92 X hk11  J (lv_sub hl [0, 1, 2, 3, 4, 5] rfl) hf
set_option maxHeartbeats 4000000 in
theorem bX2_joinAll_11 {o : Int32 × zSt} (X : zX p s m args meth c D cy shC ad ts cX2_joinAll 7 (some .int) RX2)  : ∀ (n : Nat) (x2_ : Int32) (x3_ : Int32) (x4_ : Int32) (x5_ : Int32) (σ : zSt) (H : Heap) (locs : List Loc) (ls : Array Slot), zJ D cy shC ad ln s σ H locs → lv_has ls 7 [(0, .ref (ad 5)), (2, .int x2_), (3, .int x3_), (4, .int x4_), (5, .int x5_)] → fX2_joinAll_b11 ln N M  n x2_ x3_ x4_ x5_ σ = some o → W p l e (zRm (2)) s m args below meth c H locs 0 0 (zQi D cy shC ad ts ln below args s o) (F0 m 11 ls []) := by
  have hx := X.1
  have hb := X.2.1
  intro n
  induction n with
  | zero =>
    intro x2_ x3_ x4_ x5_ σ H locs ls J hl hf
    rw [fX2_joinAll_b11] at hf
    cases hf
  | succ n ih =>
    intro x2_ x3_ x4_ x5_ σ H locs ls J hl hf
    rw [fX2_joinAll_b11] at hf
    refine lv_iload hx hb dX2_joinAll_11 (lv_at hl 4 rfl) ?_
    refine lv_iload_n hx hb dX2_joinAll_13 rfl (lv_at hl 1 rfl) ?_
    refine lv_icmp_lt hx hb dX2_joinAll_14 rfl (fun h => ?_) (fun h => ?_)
    · have hf := itp h hf
      refine lv_iload hx hb dX2_joinAll_126 (lv_at hl 3 rfl) ?_
      exact zr_iret X J hf dX2_joinAll_128
    · have hf := itn h hf
      refine lv_iload hx hb dX2_joinAll_17 (lv_at hl 4 rfl) ?_
      refine lv_if_lt hx hb dX2_joinAll_19 rfl (fun h => ?_) (fun h => ?_)
      · have hf := itp h hf
        refine lv_iload hx hb dX2_joinAll_126 (lv_at hl 3 rfl) ?_
        exact zr_iret X J hf dX2_joinAll_128
      · have hf := itn h hf
        refine lv_iload hx hb dX2_joinAll_22 (lv_at hl 4 rfl) ?_
        refine lv_aload_n hx hb dX2_joinAll_24 rfl (lv_at hl 0 rfl) ?_
        refine gf_X2_27 X J dX2_joinAll_25 ?_
        refine an_X2_X2f3 X J dX2_joinAll_28 ?_
        refine lv_icmp_ge hx hb dX2_joinAll_29 rfl (fun h => ?_) (fun h => ?_)
        · have hf := itp h hf
          refine lv_iload hx hb dX2_joinAll_126 (lv_at hl 3 rfl) ?_
          exact zr_iret X J hf dX2_joinAll_128
        · have hf := itn h hf
          refine lv_aload_n hx hb dX2_joinAll_32 rfl (lv_at hl 0 rfl) ?_
          refine gf_X2_27 X J dX2_joinAll_33 ?_
          refine lv_iload hx hb dX2_joinAll_36 (lv_at hl 4 rfl) ?_
          obtain ⟨hin, hf⟩ := itx hf
          refine al_X2_X2f3 X J hin dX2_joinAll_38 ?_
          refine lv_topi (fun x2 eq => ?_)
          have hf := bnd_eq eq hf
          clear eq
          refine lv_istore hx hb dX2_joinAll_39 hl (by decide) rfl (fun ls hl => ?_)
          have hl : lv_has ls 7 [(6, .int x2), (0, .ref (ad 5)), (2, .int x2_), (3, .int x3_), (4, .int x4_), (5, .int x5_)] := hl
          refine lv_iload hx hb dX2_joinAll_41 (lv_at hl 0 rfl) ?_
          obtain ⟨r3, σ4, hc, hf⟩ := obd_some hf
          refine zr_callSi (As := [.int x2]) (rest := []) X J yy_X2_rankOf mw_methodLink_TinyCExpressions_79_TinyCExpressions_rankOf_II (d := 0) (zR_ok (by omega) (by decide)) hl.1 rfl (Nat.le_of_ble_eq_true rfl) (tX2_rankOf  hc) dX2_joinAll_43 (fun H locs J => ?_)
          refine lv_iload_n hx hb dX2_joinAll_46 rfl (lv_at hl 3 rfl) ?_
          refine lv_icmp_ge hx hb dX2_joinAll_47 rfl (fun h => ?_) (fun h => ?_)
          · have hf := itp h hf
            refine lv_iload hx hb dX2_joinAll_53 (lv_at hl 0 rfl) ?_
            refine lv_bipush (v := (8 : Int32)) hx hb dX2_joinAll_55 (by decide) ?_
            refine lv_icmp_eq hx hb dX2_joinAll_57 rfl (fun h => ?_) (fun h => ?_)
            · have hf := itp h hf
              exact bX2_joinAll_67 X ih  J (lv_sub hl [1, 2, 3, 4, 5, 0] rfl) hf
            · have hf := itn h hf
              refine lv_iload hx hb dX2_joinAll_60 (lv_at hl 0 rfl) ?_
              refine lv_bipush (v := (9 : Int32)) hx hb dX2_joinAll_62 (by decide) ?_
              refine lv_icmp_ne hx hb dX2_joinAll_64 rfl (fun h => ?_) (fun h => ?_)
              · have hf := itn h hf
                refine lv_aload_n hx hb dX2_joinAll_83 rfl (lv_at hl 1 rfl) ?_
                obtain ⟨q12, hq12, er, hf⟩ := rbd_some hf
                refine gf_X2_48 X J er dX2_joinAll_84 ?_
                refine lv_iload hx hb dX2_joinAll_87 (lv_at hl 0 rfl) ?_
                obtain ⟨r13, σ14, hc, hf⟩ := obd_some hf
                refine zr_callNv (As := [.int x2]) (rest := []) X J q12 (ho_C_X0 hq12).1 (ho_C_X0 hq12).2.1 (ho_C_X0 hq12).2.2 yy_X0_add mw_methodLinkNest_TinyCExpressions_109_TinyCCode_add_IV_TinyC (d := 0) (zR_ok (by omega) (by decide)) hl.1 rfl (Nat.le_of_ble_eq_true rfl) (tX0_add hq12 hc) dX2_joinAll_89 (fun H locs J => ?_)
                exact bX2_joinAll_92 X ih  J (lv_sub hl [1, 2, 3, 4, 5, 0] rfl) hf
              · have hf := itp h hf
                exact bX2_joinAll_67 X ih  J (lv_sub hl [1, 2, 3, 4, 5, 0] rfl) hf
          · have hf := itn h hf
            refine lv_goto hx hb dX2_joinAll_50 rfl ?_
            refine lv_iload hx hb dX2_joinAll_126 (lv_at hl 4 rfl) ?_
            exact zr_iret X J hf dX2_joinAll_128
set_option maxHeartbeats 4000000 in
theorem tX2_joinAll {a1_ : Int32} {a2_ : Int32} {a3_ : Int32}  {σ u : zSt} {r : Int32} (hf : fX2_joinAll ln N M a1_ a2_ a3_ σ = some (r, u)) : zMi l yX2_joinAll cX2_joinAll 7 (some .int) (2) D cy shC ad ts ln [.ref (ad 5), .int a1_, .int a2_, .int a3_] σ r u := by
  refine zM_of (by decide) (Nat.le_of_ble_eq_true rfl) (fun p e s m args below meth c ls ha X J hl => ?_)
  have hx := X.1
  have hb := X.2.1
  have hl : lv_has ls 7 [(0, .ref (ad 5)), (1, .int a1_), (2, .int a2_), (3, .int a3_)] := hl
  generalize s.heap = H at J ⊢
  generalize ([] : List Loc) = locs at J ⊢
  show W p l e (zRm (2)) s m args below meth c H locs 0 0 (zQi D cy shC ad ts ln below args s (r, u)) (F0 m 0 ls [])
  unfold fX2_joinAll at hf
  refine lv_iload_n hx hb dX2_joinAll_0 rfl (lv_at hl 1 rfl) ?_
  refine lv_istore hx hb dX2_joinAll_1 hl (by decide) rfl (fun ls hl => ?_)
  have hl : lv_has ls 7 [(4, .int a1_), (0, .ref (ad 5)), (1, .int a1_), (2, .int a2_), (3, .int a3_)] := hl
  refine lv_aload_n hx hb dX2_joinAll_3 rfl (lv_at hl 1 rfl) ?_
  refine gf_X2_49 X J dX2_joinAll_4 ?_
  refine lv_iconst (v := (1 : Int32)) hx hb dX2_joinAll_7 (by decide) ?_
  refine lv_isub hx hb dX2_joinAll_8 ?_
  refine lv_topi (fun x1 eq => ?_)
  have hf := bnd_eq eq hf
  clear eq
  refine lv_istore hx hb dX2_joinAll_9 hl (by decide) rfl (fun ls hl => ?_)
  have hl : lv_has ls 7 [(5, .int x1), (4, .int a1_), (0, .ref (ad 5)), (1, .int a1_), (2, .int a2_), (3, .int a3_)] := hl
  exact bX2_joinAll_11 X  N _ _ _ _ _ _ _ _ J (lv_sub hl [2, 4, 5, 1, 0] rfl) hf
set_option maxHeartbeats 4000000 in
theorem bX2_openTwo_107 {o : Unit × zSt} (X : zX p s m args meth c D cy shC ad ts cX2_openTwo 4 none RX2)  {x1_ : Int32} {x2_ : Int32} {x3_ : Int32}  {σ : zSt} {H : Heap} {locs : List Loc} {ls : Array Slot} (J : zJ D cy shC ad ln s σ H locs) (hl : lv_has ls 4 [(0, .ref (ad 5)), (1, .int x1_), (2, .int x2_), (3, .int x3_)]) (hf : fX2_openTwo_b107 ln N M  x1_ x2_ x3_ σ = some o) : W p l e (zRm (2)) s m args below meth c H locs 0 0 (zQv D cy shC ad ts ln below args s o) (F0 m 107 ls []) := by
  have hx := X.1
  have hb := X.2.1
  unfold fX2_openTwo_b107 at hf
  refine lv_aload_n hx hb dX2_openTwo_107 rfl (lv_at hl 0 rfl) ?_
  refine lv_iload_n hx hb dX2_openTwo_108 rfl (lv_at hl 2 rfl) ?_
  refine lv_iload_n hx hb dX2_openTwo_109 rfl (lv_at hl 1 rfl) ?_
  refine lv_iload_n hx hb dX2_openTwo_110 rfl (lv_at hl 3 rfl) ?_
  obtain ⟨r5, σ6, hc, hf⟩ := obd_some hf
  refine zr_callv (As := [.int x2_, .int x1_, .int x3_]) (rest := []) X J 5 ho_C_X2.1 ho_C_X2.2.1 ho_C_X2.2.2 yy_X2_push mw_methodLink_TinyCExpressions_105_TinyCExpressions_push_IIIV (d := 0) (zR_ok (by omega) (by decide)) hl.1 rfl (Nat.le_of_ble_eq_true rfl) (tX2_push  hc) dX2_openTwo_111 (fun H locs J => ?_)
  exact zr_vret X J hf dX2_openTwo_114
set_option maxHeartbeats 4000000 in
theorem tX2_openTwo {a1_ : Int32}  {σ u : zSt} {r : Unit} (hf : fX2_openTwo ln N M a1_ σ = some (r, u)) : zMv l yX2_openTwo cX2_openTwo 4 none (2) D cy shC ad ts ln [.ref (ad 5), .int a1_] σ u := by
  refine zM_of (by decide) (Nat.le_of_ble_eq_true rfl) (fun p e s m args below meth c ls ha X J hl => ?_)
  have hx := X.1
  have hb := X.2.1
  have hl : lv_has ls 4 [(0, .ref (ad 5)), (1, .int a1_)] := hl
  generalize s.heap = H at J ⊢
  generalize ([] : List Loc) = locs at J ⊢
  show W p l e (zRm (2)) s m args below meth c H locs 0 0 (zQv D cy shC ad ts ln below args s (r, u)) (F0 m 0 ls [])
  unfold fX2_openTwo at hf
  refine lv_aload_n hx hb dX2_openTwo_0 rfl (lv_at hl 0 rfl) ?_
  refine gf_X2_21 X J dX2_openTwo_1 ?_
  refine gf_X2_76 X J dX2_openTwo_4 ?_
  refine lv_topi (fun x1 eq => ?_)
  have hf := bnd_eq eq hf
  clear eq
  refine lv_istore_n hx hb dX2_openTwo_7 rfl hl (by decide) rfl (fun ls hl => ?_)
  have hl : lv_has ls 4 [(2, .int x1), (0, .ref (ad 5)), (1, .int a1_)] := hl
  refine lv_iconst (v := (-1 : Int32)) hx hb dX2_openTwo_8 (by decide) ?_
  refine lv_topi (fun x2 eq => ?_)
  have hf := bnd_eq eq hf
  clear eq
  refine lv_istore_n hx hb dX2_openTwo_9 rfl hl (by decide) rfl (fun ls hl => ?_)
  have hl : lv_has ls 4 [(3, .int x2), (2, .int x1), (0, .ref (ad 5)), (1, .int a1_)] := hl
  refine lv_aload_n hx hb dX2_openTwo_10 rfl (lv_at hl 2 rfl) ?_
  refine gf_X2_9 X J dX2_openTwo_11 ?_
  refine lv_aload_n hx hb dX2_openTwo_14 rfl (lv_at hl 2 rfl) ?_
  refine gf_X2_21 X J dX2_openTwo_15 ?_
  refine gf_X2_99 X J dX2_openTwo_18 ?_
  obtain ⟨r3, σ4, hc, hf⟩ := obd_some hf
  refine zr_callNv (As := [.int (zI σ 1 4)]) (rest := []) X J 3 ho_C_X1.1 ho_C_X1.2.1 ho_C_X1.2.2 yy_X1_takeCells mw_methodLinkNest_TinyCExpressions_102_TinyCDesk_takeCells_IV_TinyC (d := 1) (zR_ok (by omega) (by decide)) hl.1 rfl (Nat.le_of_ble_eq_true rfl) (tX1_takeCells  hc) dX2_openTwo_21 (fun H locs J => ?_)
  refine lv_iload_n hx hb dX2_openTwo_24 rfl (lv_at hl 1 rfl) ?_
  refine lv_bipush (v := (8 : Int32)) hx hb dX2_openTwo_25 (by decide) ?_
  refine lv_icmp_ne hx hb dX2_openTwo_27 rfl (fun h => ?_) (fun h => ?_)
  · have hf := itn h hf
    refine lv_iload_n hx hb dX2_openTwo_53 rfl (lv_at hl 1 rfl) ?_
    refine lv_bipush (v := (9 : Int32)) hx hb dX2_openTwo_54 (by decide) ?_
    refine lv_icmp_ne hx hb dX2_openTwo_56 rfl (fun h => ?_) (fun h => ?_)
    · have hf := itn h hf
      exact bX2_openTwo_107 X   J (lv_sub hl [2, 3, 1, 0] rfl) hf
    · have hf := itp h hf
      refine lv_aload_n hx hb dX2_openTwo_59 rfl (lv_at hl 2 rfl) ?_
      obtain ⟨q7, hq7, er, hf⟩ := rbd_some hf
      refine gf_X2_48 X J er dX2_openTwo_60 ?_
      refine lv_bipush (v := (31 : Int32)) hx hb dX2_openTwo_63 (by decide) ?_
      refine lv_aload_n hx hb dX2_openTwo_65 rfl (lv_at hl 2 rfl) ?_
      obtain ⟨q8, hq8, er, hf⟩ := rbd_some hf
      refine gf_X2_48 X J er dX2_openTwo_66 ?_
      refine gf_X2_132 hq8 X J dX2_openTwo_69 ?_
      refine lv_bipush (v := (6 : Int32)) hx hb dX2_openTwo_72 (by decide) ?_
      refine lv_iadd hx hb dX2_openTwo_74 ?_
      obtain ⟨r9, σ10, hc, hf⟩ := obd_some hf
      refine zr_callNv (As := [.int (31 : Int32), .int ((zI σ4 q8 1) + (6 : Int32))]) (rest := []) X J q7 (ho_C_X0 hq7).1 (ho_C_X0 hq7).2.1 (ho_C_X0 hq7).2.2 yy_X0_addWith mw_methodLinkNest_TinyCExpressions_129_TinyCCode_addWith_IIV_TinyC (d := 0) (zR_ok (by omega) (by decide)) hl.1 rfl (Nat.le_of_ble_eq_true rfl) (tX0_addWith hq7 hc) dX2_openTwo_75 (fun H locs J => ?_)
      refine lv_aload_n hx hb dX2_openTwo_78 rfl (lv_at hl 2 rfl) ?_
      obtain ⟨q11, hq11, er, hf⟩ := rbd_some hf
      refine gf_X2_48 X J er dX2_openTwo_79 ?_
      refine lv_iconst (v := (1 : Int32)) hx hb dX2_openTwo_82 (by decide) ?_
      refine lv_iconst (v := (1 : Int32)) hx hb dX2_openTwo_83 (by decide) ?_
      obtain ⟨r12, σ13, hc, hf⟩ := obd_some hf
      refine zr_callNv (As := [.int (1 : Int32), .int (1 : Int32)]) (rest := []) X J q11 (ho_C_X0 hq11).1 (ho_C_X0 hq11).2.1 (ho_C_X0 hq11).2.2 yy_X0_addWith mw_methodLinkNest_TinyCExpressions_129_TinyCCode_addWith_IIV_TinyC (d := 0) (zR_ok (by omega) (by decide)) hl.1 rfl (Nat.le_of_ble_eq_true rfl) (tX0_addWith hq11 hc) dX2_openTwo_84 (fun H locs J => ?_)
      refine lv_aload_n hx hb dX2_openTwo_87 rfl (lv_at hl 2 rfl) ?_
      obtain ⟨q14, hq14, er, hf⟩ := rbd_some hf
      refine gf_X2_48 X J er dX2_openTwo_88 ?_
      refine lv_bipush (v := (30 : Int32)) hx hb dX2_openTwo_91 (by decide) ?_
      refine lv_iconst (v := (0 : Int32)) hx hb dX2_openTwo_93 (by decide) ?_
      obtain ⟨r15, σ16, hc, hf⟩ := obd_some hf
      refine zr_callNv (As := [.int (30 : Int32), .int (0 : Int32)]) (rest := []) X J q14 (ho_C_X0 hq14).1 (ho_C_X0 hq14).2.1 (ho_C_X0 hq14).2.2 yy_X0_addWith mw_methodLinkNest_TinyCExpressions_129_TinyCCode_addWith_IIV_TinyC (d := 0) (zR_ok (by omega) (by decide)) hl.1 rfl (Nat.le_of_ble_eq_true rfl) (tX0_addWith hq14 hc) dX2_openTwo_94 (fun H locs J => ?_)
      refine lv_aload_n hx hb dX2_openTwo_97 rfl (lv_at hl 2 rfl) ?_
      obtain ⟨q17, hq17, er, hf⟩ := rbd_some hf
      refine gf_X2_48 X J er dX2_openTwo_98 ?_
      refine gf_X2_132 hq17 X J dX2_openTwo_101 ?_
      refine lv_iconst (v := (1 : Int32)) hx hb dX2_openTwo_104 (by decide) ?_
      refine lv_isub hx hb dX2_openTwo_105 ?_
      refine lv_topi (fun x18 eq => ?_)
      have hf := bnd_eq eq hf
      clear eq
      refine lv_istore_n hx hb dX2_openTwo_106 rfl hl (by decide) rfl (fun ls hl => ?_)
      have hl : lv_has ls 4 [(3, .int x18), (2, .int x1), (0, .ref (ad 5)), (1, .int a1_)] := hl
      exact bX2_openTwo_107 X   J (lv_sub hl [2, 3, 1, 0] rfl) hf
  · have hf := itp h hf
    refine lv_aload_n hx hb dX2_openTwo_30 rfl (lv_at hl 2 rfl) ?_
    obtain ⟨q19, hq19, er, hf⟩ := rbd_some hf
    refine gf_X2_48 X J er dX2_openTwo_31 ?_
    refine lv_bipush (v := (31 : Int32)) hx hb dX2_openTwo_34 (by decide) ?_
    refine lv_iconst (v := (0 : Int32)) hx hb dX2_openTwo_36 (by decide) ?_
    obtain ⟨r20, σ21, hc, hf⟩ := obd_some hf
    refine zr_callNv (As := [.int (31 : Int32), .int (0 : Int32)]) (rest := []) X J q19 (ho_C_X0 hq19).1 (ho_C_X0 hq19).2.1 (ho_C_X0 hq19).2.2 yy_X0_addWith mw_methodLinkNest_TinyCExpressions_129_TinyCCode_addWith_IIV_TinyC (d := 0) (zR_ok (by omega) (by decide)) hl.1 rfl (Nat.le_of_ble_eq_true rfl) (tX0_addWith hq19 hc) dX2_openTwo_37 (fun H locs J => ?_)
    refine lv_aload_n hx hb dX2_openTwo_40 rfl (lv_at hl 2 rfl) ?_
    obtain ⟨q22, hq22, er, hf⟩ := rbd_some hf
    refine gf_X2_48 X J er dX2_openTwo_41 ?_
    refine gf_X2_132 hq22 X J dX2_openTwo_44 ?_
    refine lv_iconst (v := (1 : Int32)) hx hb dX2_openTwo_47 (by decide) ?_
    refine lv_isub hx hb dX2_openTwo_48 ?_
    refine lv_topi (fun x23 eq => ?_)
    have hf := bnd_eq eq hf
    clear eq
    refine lv_istore_n hx hb dX2_openTwo_49 rfl hl (by decide) rfl (fun ls hl => ?_)
    have hl : lv_has ls 4 [(3, .int x23), (2, .int x1), (0, .ref (ad 5)), (1, .int a1_)] := hl
    refine lv_goto hx hb dX2_openTwo_50 rfl ?_
    exact bX2_openTwo_107 X   J (lv_sub hl [2, 3, 1, 0] rfl) hf
set_option maxHeartbeats 4000000 in
theorem bX2_expression_90 {o : Int32 × zSt} {K : Int32 → zSt → Option (Int32 × zSt)} {dk : Nat} (hdk : 3 ≤ dk) (hK : ∀ (b0 : Int32) (σ u : zSt) (r : Int32), K b0 σ = some (r, u) → zMi l yX2_expression cX2_expression 6 (some .int) dk D cy shC ad ts ln [.ref (ad 5), .int b0] σ r u) (X : zX p s m args meth c D cy shC ad ts cX2_expression 6 (some .int) RX2)  {x2_ : Int32} {x3_ : Int32}  {σ : zSt} {H : Heap} {locs : List Loc} {ls : Array Slot} (J : zJ D cy shC ad ln s σ H locs) (hl : lv_has ls 6 [(0, .ref (ad 5)), (2, .int x2_), (3, .int x3_)]) (hf : fX2_expression_b90 ln N M K  x2_ x3_ σ = some o) : W p l e (zRm (dk + 4)) s m args below meth c H locs 0 0 (zQi D cy shC ad ts ln below args s o) (F0 m 90 ls []) := by
  have hx := X.1
  have hb := X.2.1
  unfold fX2_expression_b90 at hf
  refine lv_aload_n hx hb dX2_expression_90 rfl (lv_at hl 0 rfl) ?_
  refine lv_iload_n hx hb dX2_expression_91 rfl (lv_at hl 1 rfl) ?_
  refine pf_X2_49 X J dX2_expression_92 (fun σ4 H locs eq J => ?_)
  have hf := bnd_eq eq hf
  clear eq
  refine lv_iload_n hx hb dX2_expression_95 rfl (lv_at hl 2 rfl) ?_
  exact zr_iret X J hf dX2_expression_96
set_option maxHeartbeats 4000000 in
theorem bX2_expression_10 {o : Int32 × zSt} {K : Int32 → zSt → Option (Int32 × zSt)} {dk : Nat} (hdk : 3 ≤ dk) (hK : ∀ (b0 : Int32) (σ u : zSt) (r : Int32), K b0 σ = some (r, u) → zMi l yX2_expression cX2_expression 6 (some .int) dk D cy shC ad ts ln [.ref (ad 5), .int b0] σ r u) (X : zX p s m args meth c D cy shC ad ts cX2_expression 6 (some .int) RX2)  : ∀ (n : Nat) (x1_ : Int32) (x2_ : Int32) (x3_ : Int32) (x4_ : Int32) (σ : zSt) (H : Heap) (locs : List Loc) (ls : Array Slot), zJ D cy shC ad ln s σ H locs → lv_has ls 6 [(0, .ref (ad 5)), (1, .int x1_), (2, .int x2_), (3, .int x3_), (4, .int x4_)] → fX2_expression_b10 ln N M K  n x1_ x2_ x3_ x4_ σ = some o → W p l e (zRm (dk + 4)) s m args below meth c H locs 0 0 (zQi D cy shC ad ts ln below args s o) (F0 m 10 ls []) := by
  have hx := X.1
  have hb := X.2.1
  intro n
  induction n with
  | zero =>
    intro x1_ x2_ x3_ x4_ σ H locs ls J hl hf
    rw [fX2_expression_b10] at hf
    cases hf
  | succ n ih =>
    intro x1_ x2_ x3_ x4_ σ H locs ls J hl hf
    rw [fX2_expression_b10] at hf
    refine lv_iload hx hb dX2_expression_10 (lv_at hl 4 rfl) ?_
    refine lv_aload_n hx hb dX2_expression_12 rfl (lv_at hl 0 rfl) ?_
    refine gf_X2_21 X J dX2_expression_13 ?_
    refine gf_X2_56 X J dX2_expression_16 ?_
    refine lv_icmp_gt hx hb dX2_expression_19 rfl (fun h => ?_) (fun h => ?_)
    · have hf := itp h hf
      exact bX2_expression_90 hdk hK X   J (lv_sub hl [0, 2, 3] rfl) hf
    · have hf := itn h hf
      refine lv_aload_n hx hb dX2_expression_22 rfl (lv_at hl 0 rfl) ?_
      obtain ⟨r5, σ6, hc, hf⟩ := obd_some hf
      refine zr_callv (As := []) (rest := []) X J 5 ho_C_X2.1 ho_C_X2.2.1 ho_C_X2.2.2 yy_X2_openOnes mw_methodLink_TinyCExpressions_61_TinyCExpressions_openOnes_V (d := 2) (zR_ok (by omega) (by decide)) hl.1 rfl (Nat.le_of_ble_eq_true rfl) (tX2_openOnes  hc) dX2_expression_23 (fun H locs J => ?_)
      refine lv_aload_n hx hb dX2_expression_26 rfl (lv_at hl 0 rfl) ?_
      obtain ⟨r7, σ8, hc, hf⟩ := obd_some hf
      refine zr_calli (As := []) (rest := []) X J 5 ho_C_X2.1 ho_C_X2.2.1 ho_C_X2.2.2 yy_X2_operand mw_methodLink_TinyCExpressions_64_TinyCExpressions_operand_I (d := dk + 3) (zR_ok (by omega) (by decide)) hl.1 rfl (Nat.le_of_ble_eq_true rfl) (tX2_operand hdk hK  hc) dX2_expression_27 (fun H locs J => ?_)
      refine lv_istore_n hx hb dX2_expression_30 rfl hl (by decide) rfl (fun ls hl => ?_)
      have hl : lv_has ls 6 [(3, .int r7), (0, .ref (ad 5)), (1, .int x1_), (2, .int x2_), (4, .int x4_)] := hl
      refine lv_aload_n hx hb dX2_expression_31 rfl (lv_at hl 1 rfl) ?_
      refine lv_iload_n hx hb dX2_expression_32 rfl (lv_at hl 0 rfl) ?_
      refine lv_iload_n hx hb dX2_expression_33 rfl (lv_at hl 3 rfl) ?_
      obtain ⟨r9, σ10, hc, hf⟩ := obd_some hf
      refine zr_calli (As := [.int r7, .int x2_]) (rest := []) X J 5 ho_C_X2.1 ho_C_X2.2.1 ho_C_X2.2.2 yy_X2_closeOnes mw_methodLink_TinyCExpressions_68_TinyCExpressions_closeOnes_III (d := 1) (zR_ok (by omega) (by decide)) hl.1 rfl (Nat.le_of_ble_eq_true rfl) (tX2_closeOnes  hc) dX2_expression_34 (fun H locs J => ?_)
      refine lv_istore_n hx hb dX2_expression_37 rfl hl (by decide) rfl (fun ls hl => ?_)
      have hl : lv_has ls 6 [(3, .int r9), (0, .ref (ad 5)), (1, .int x1_), (2, .int x2_), (4, .int x4_)] := hl
      refine lv_aload_n hx hb dX2_expression_38 rfl (lv_at hl 1 rfl) ?_
      refine lv_iload_n hx hb dX2_expression_39 rfl (lv_at hl 2 rfl) ?_
      obtain ⟨r11, σ12, hc, hf⟩ := obd_some hf
      refine zr_callv (As := [.int x1_]) (rest := []) X J 5 ho_C_X2.1 ho_C_X2.2.1 ho_C_X2.2.2 yy_X2_settle mw_methodLink_TinyCExpressions_72_TinyCExpressions_settle_IV (d := 1) (zR_ok (by omega) (by decide)) hl.1 rfl (Nat.le_of_ble_eq_true rfl) (tX2_settle  hc) dX2_expression_40 (fun H locs J => ?_)
      refine lv_aload_n hx hb dX2_expression_43 rfl (lv_at hl 1 rfl) ?_
      refine gf_X2_21 X J dX2_expression_44 ?_
      refine gf_X2_76 X J dX2_expression_47 ?_
      obtain ⟨r13, σ14, hc, hf⟩ := obd_some hf
      refine zr_callSi (As := [.int (zI σ12 1 3)]) (rest := []) X J yy_X2_rankOf mw_methodLink_TinyCExpressions_79_TinyCExpressions_rankOf_II (d := 0) (zR_ok (by omega) (by decide)) hl.1 rfl (Nat.le_of_ble_eq_true rfl) (tX2_rankOf  hc) dX2_expression_50 (fun H locs J => ?_)
      refine lv_istore hx hb dX2_expression_53 hl (by decide) rfl (fun ls hl => ?_)
      have hl : lv_has ls 6 [(5, .int r13), (3, .int r9), (0, .ref (ad 5)), (1, .int x1_), (2, .int x2_), (4, .int x4_)] := hl
      refine lv_aload_n hx hb dX2_expression_55 rfl (lv_at hl 2 rfl) ?_
      refine lv_iload_n hx hb dX2_expression_56 rfl (lv_at hl 1 rfl) ?_
      refine lv_iload_n hx hb dX2_expression_57 rfl (lv_at hl 4 rfl) ?_
      refine lv_iload hx hb dX2_expression_58 (lv_at hl 0 rfl) ?_
      obtain ⟨r15, σ16, hc, hf⟩ := obd_some hf
      refine zr_calli (As := [.int r9, .int x2_, .int r13]) (rest := []) X J 5 ho_C_X2.1 ho_C_X2.2.1 ho_C_X2.2.2 yy_X2_joinAll mw_methodLink_TinyCExpressions_83_TinyCExpressions_joinAll_IIII (d := 2) (zR_ok (by omega) (by decide)) hl.1 rfl (Nat.le_of_ble_eq_true rfl) (tX2_joinAll  hc) dX2_expression_60 (fun H locs J => ?_)
      refine lv_istore_n hx hb dX2_expression_63 rfl hl (by decide) rfl (fun ls hl => ?_)
      have hl : lv_has ls 6 [(3, .int r15), (5, .int r13), (0, .ref (ad 5)), (1, .int x1_), (2, .int x2_), (4, .int x4_)] := hl
      refine lv_iload hx hb dX2_expression_64 (lv_at hl 1 rfl) ?_
      refine lv_if_ne hx hb dX2_expression_66 rfl (fun h => ?_) (fun h => ?_)
      · have hf := itn h hf
        refine lv_aload_n hx hb dX2_expression_72 rfl (lv_at hl 2 rfl) ?_
        refine lv_iload_n hx hb dX2_expression_73 rfl (lv_at hl 0 rfl) ?_
        obtain ⟨r17, σ18, hc, hf⟩ := obd_some hf
        refine zr_callv (As := [.int r15]) (rest := []) X J 5 ho_C_X2.1 ho_C_X2.2.1 ho_C_X2.2.2 yy_X2_openTwo mw_methodLink_TinyCExpressions_87_TinyCExpressions_openTwo_IV (d := 2) (zR_ok (by omega) (by decide)) hl.1 rfl (Nat.le_of_ble_eq_true rfl) (tX2_openTwo  hc) dX2_expression_74 (fun H locs J => ?_)
        refine lv_aload_n hx hb dX2_expression_77 rfl (lv_at hl 2 rfl) ?_
        refine gf_X2_21 X J dX2_expression_78 ?_
        obtain ⟨r19, σ20, hc, hf⟩ := obd_some hf
        refine zr_callNv (As := []) (rest := []) X J 1 ho_C_X7.1 ho_C_X7.2.1 ho_C_X7.2.2 yy_X7_come mw_methodLinkNest_TinyCExpressions_90_TinyCScan_come_V_TinyC (d := 1) (zR_ok (by omega) (by decide)) hl.1 rfl (Nat.le_of_ble_eq_true rfl) (tX7_come  hc) dX2_expression_81 (fun H locs J => ?_)
        obtain ⟨x21, eq⟩ : ∃ z, z = x4_ + (1 : Int32) := ⟨_, rfl⟩
        have hf := bnd_eq eq hf
        refine lv_iinc hx hb dX2_expression_84 hl (k := 5) rfl (v := x21) (by rw [eq]; rfl) (by decide) rfl (fun ls hl => ?_)
        clear eq
        have hl : lv_has ls 6 [(4, .int x21), (3, .int r15), (5, .int r13), (0, .ref (ad 5)), (1, .int x1_), (2, .int x2_)] := hl
        refine lv_goto hx hb dX2_expression_87 rfl ?_
        exact ih _ _ _ _ _ _ _ _ J (lv_sub hl [3, 4, 5, 1, 0] rfl) hf
      · have hf := itp h hf
        refine lv_goto hx hb dX2_expression_69 rfl ?_
        exact bX2_expression_90 hdk hK X   J (lv_sub hl [2, 4, 0] rfl) hf
set_option maxHeartbeats 4000000 in
theorem tX2_expressionB {K : Int32 → zSt → Option (Int32 × zSt)} {dk : Nat} (hdk : 3 ≤ dk) (hK : ∀ (b0 : Int32) (σ u : zSt) (r : Int32), K b0 σ = some (r, u) → zMi l yX2_expression cX2_expression 6 (some .int) dk D cy shC ad ts ln [.ref (ad 5), .int b0] σ r u) {a1_ : Int32}  {σ u : zSt} {r : Int32} (hf : fX2_expressionB ln N M K a1_ σ = some (r, u)) : zMi l yX2_expression cX2_expression 6 (some .int) (dk + 4) D cy shC ad ts ln [.ref (ad 5), .int a1_] σ r u := by
  refine zM_of (by decide) (Nat.le_of_ble_eq_true rfl) (fun p e s m args below meth c ls ha X J hl => ?_)
  have hx := X.1
  have hb := X.2.1
  have hl : lv_has ls 6 [(0, .ref (ad 5)), (1, .int a1_)] := hl
  generalize s.heap = H at J ⊢
  generalize ([] : List Loc) = locs at J ⊢
  show W p l e (zRm (dk + 4)) s m args below meth c H locs 0 0 (zQi D cy shC ad ts ln below args s (r, u)) (F0 m 0 ls [])
  unfold fX2_expressionB at hf
  refine lv_aload_n hx hb dX2_expression_0 rfl (lv_at hl 0 rfl) ?_
  refine gf_X2_49 X J dX2_expression_1 ?_
  refine lv_topi (fun x1 eq => ?_)
  have hf := bnd_eq eq hf
  clear eq
  refine lv_istore_n hx hb dX2_expression_4 rfl hl (by decide) rfl (fun ls hl => ?_)
  have hl : lv_has ls 6 [(2, .int x1), (0, .ref (ad 5)), (1, .int a1_)] := hl
  refine lv_iconst (v := (-1 : Int32)) hx hb dX2_expression_5 (by decide) ?_
  refine lv_topi (fun x2 eq => ?_)
  have hf := bnd_eq eq hf
  clear eq
  refine lv_istore_n hx hb dX2_expression_6 rfl hl (by decide) rfl (fun ls hl => ?_)
  have hl : lv_has ls 6 [(3, .int x2), (2, .int x1), (0, .ref (ad 5)), (1, .int a1_)] := hl
  refine lv_iconst (v := (0 : Int32)) hx hb dX2_expression_7 (by decide) ?_
  refine lv_topi (fun x3 eq => ?_)
  have hf := bnd_eq eq hf
  clear eq
  refine lv_istore hx hb dX2_expression_8 hl (by decide) rfl (fun ls hl => ?_)
  have hl : lv_has ls 6 [(4, .int x3), (3, .int x2), (2, .int x1), (0, .ref (ad 5)), (1, .int a1_)] := hl
  exact bX2_expression_10 hdk hK X  N _ _ _ _ _ _ _ _ J (lv_sub hl [3, 4, 2, 1, 0] rfl) hf
theorem tnX2_expression : ∀ (n : Nat) (a1_ : Int32) (σ u : zSt) (r : Int32), fX2_expression ln N M n a1_ σ = some (r, u) → zMi l yX2_expression cX2_expression 6 (some .int) (4 * n + (3)) D cy shC ad ts ln [.ref (ad 5), .int a1_] σ r u := by
  intro n
  induction n with
  | zero =>
    intro a1_ σ u r hf
    rw [fX2_expression] at hf
    cases hf
  | succ n ih =>
    intro a1_ σ u r hf
    rw [fX2_expression] at hf
    have h := tX2_expressionB (l := l) (D := D) (cy := cy) (ad := ad) (ts := ts) (dk := 4 * n + (3)) (by omega) ih hf
    have e1 : 4 * (n + 1) + (3) = 4 * n + (3) + 4 := by omega
    rw [e1]
    exact h
theorem tX2_expression (_ : Unit) (a1_ : Int32) (σ u : zSt) (r : Int32) (hf : fX2_expression ln N M M a1_ σ = some (r, u)) : zMi l yX2_expression cX2_expression 6 (some .int) (4 * M + 3) D cy shC ad ts ln [.ref (ad 5), .int a1_] σ r u := by
  have h := tnX2_expression (l := l) (D := D) (cy := cy) (ad := ad) (ts := ts) M a1_ σ u r hf
  have e1 : 4 * M + 3 = 4 * M + (3) := by omega
  rw [e1]
  exact h
set_option maxHeartbeats 4000000 in
theorem bX6_local_65 {o : Int32 × zSt} (X : zX p s m args meth c D cy shC ad ts cX6_local 6 (some .int) RX6)  {x2_ : Int64} {x4_ : Int32}  {σ : zSt} {H : Heap} {locs : List Loc} {ls : Array Slot} (J : zJ D cy shC ad ln s σ H locs) (hl : lv_has ls 6 [(0, .ref (ad 2)), (2, .long x2_), (4, .int x4_)]) (hf : fX6_local_b65 ln N M  x2_ x4_ σ = some o) : W p l e (zRm (4 * M + 4)) s m args below meth c H locs 0 0 (zQi D cy shC ad ts ln below args s o) (F0 m 65 ls []) := by
  have hx := X.1
  have hb := X.2.1
  unfold fX6_local_b65 at hf
  refine lv_aload_n hx hb dX6_local_65 rfl (lv_at hl 0 rfl) ?_
  refine gf_X6_190 X J dX6_local_66 ?_
  refine lv_topi (fun x10 eq => ?_)
  have hf := bnd_eq eq hf
  clear eq
  refine lv_istore hx hb dX6_local_69 hl (by decide) rfl (fun ls hl => ?_)
  have hl : lv_has ls 6 [(5, .int x10), (0, .ref (ad 2)), (2, .long x2_), (4, .int x4_)] := hl
  refine lv_aload_n hx hb dX6_local_71 rfl (lv_at hl 1 rfl) ?_
  obtain ⟨q11, hq11, er, hf⟩ := rbd_some hf
  refine gf_X6_51 X J er dX6_local_72 ?_
  refine lv_iconst (v := (5 : Int32)) hx hb dX6_local_75 (by decide) ?_
  refine lv_iload hx hb dX6_local_76 (lv_at hl 0 rfl) ?_
  obtain ⟨r12, σ13, hc, hf⟩ := obd_some hf
  refine zr_callNv (As := [.int (5 : Int32), .int x10]) (rest := []) X J q11 (ho_C_X0 hq11).1 (ho_C_X0 hq11).2.1 (ho_C_X0 hq11).2.2 yy_X0_addWith mw_methodLinkNest_TinyCReader_196_TinyCCode_addWith_IIV_TinyC (d := 0) (zR_ok (by omega) (by decide)) hl.1 rfl (Nat.le_of_ble_eq_true rfl) (tX0_addWith hq11 hc) dX6_local_78 (fun H locs J => ?_)
  refine lv_aload_n hx hb dX6_local_81 rfl (lv_at hl 1 rfl) ?_
  refine gf_X6_26 X J dX6_local_82 ?_
  refine lv_lload_n hx hb dX6_local_85 rfl (lv_at hl 2 rfl) ?_
  refine lv_iconst (v := (3 : Int32)) hx hb dX6_local_86 (by decide) ?_
  refine lv_iload hx hb dX6_local_87 (lv_at hl 0 rfl) ?_
  refine lv_iconst (v := (0 : Int32)) hx hb dX6_local_89 (by decide) ?_
  obtain ⟨r14, σ15, hc, hf⟩ := obd_some hf
  refine zr_callNv (As := [.long x2_, .int (3 : Int32), .int x10, .int (0 : Int32)]) (rest := []) X J 4 ho_C_X4.1 ho_C_X4.2.1 ho_C_X4.2.2 yy_X4_add mw_methodLinkNest_TinyCReader_151_TinyCNames_add_JIIIV_TinyC (d := 0) (zR_ok (by omega) (by decide)) hl.1 rfl (Nat.le_of_ble_eq_true rfl) (tX4_add  hc) dX6_local_90 (fun H locs J => ?_)
  refine lv_aload_n hx hb dX6_local_93 rfl (lv_at hl 1 rfl) ?_
  refine lv_dup hx hb dX6_local_94 rfl ?_
  refine gf_X6_190 X J dX6_local_95 ?_
  refine lv_iconst (v := (1 : Int32)) hx hb dX6_local_98 (by decide) ?_
  refine lv_iadd hx hb dX6_local_99 ?_
  refine pf_X6_190 X J dX6_local_100 (fun σ16 H locs eq J => ?_)
  have hf := bnd_eq eq hf
  clear eq
  refine lv_aload_n hx hb dX6_local_103 rfl (lv_at hl 1 rfl) ?_
  refine lv_aload_n hx hb dX6_local_104 rfl (lv_at hl 1 rfl) ?_
  refine gf_X6_193 X J dX6_local_105 ?_
  refine lv_aload_n hx hb dX6_local_108 rfl (lv_at hl 1 rfl) ?_
  refine gf_X6_190 X J dX6_local_109 ?_
  refine va_mmax (rest := [.ref (ad 2)]) hx hb (X.2.2.1.trans hl.1.symm) X.2.2.2.1 (X.2.2.2.2.1 _ mw_methodLink_TinyCReader_238_javalangMath_max_III) (X.2.2.2.2.1 _ mw_static_javalangMath_max_III) (X.2.2.2.2.1 _ mw_initialized_javalangMath) (X.2.2.2.2.1 _ mw_code_javalangMath_max_III) (zR_1a (by omega)) (zR_1b (by omega) (Nat.le_of_ble_eq_true rfl)) (Nat.zero_le _) (Nat.zero_le _) dX6_local_112 ?_
  refine pf_X6_193 X J dX6_local_115 (fun σ17 H locs eq J => ?_)
  have hf := bnd_eq eq hf
  clear eq
  refine lv_aload_n hx hb dX6_local_118 rfl (lv_at hl 1 rfl) ?_
  refine gf_X6_21 X J dX6_local_119 ?_
  refine lv_bipush (v := (56 : Int32)) hx hb dX6_local_122 (by decide) ?_
  obtain ⟨r18, σ19, hc, hf⟩ := obd_some hf
  refine zr_callNv (As := [.int (56 : Int32)]) (rest := []) X J 1 ho_C_X7.1 ho_C_X7.2.1 ho_C_X7.2.2 yy_X7_pass mw_methodLinkNest_TinyCReader_145_TinyCScan_pass_IV_TinyC (d := 2) (zR_ok (by omega) (by decide)) hl.1 rfl (Nat.le_of_ble_eq_true rfl) (tX7_pass  hc) dX6_local_124 (fun H locs J => ?_)
  refine lv_aload_n hx hb dX6_local_127 rfl (lv_at hl 1 rfl) ?_
  obtain ⟨q20, hq20, er, hf⟩ := rbd_some hf
  refine gf_X6_46 X J er dX6_local_128 ?_
  refine lv_bipush (v := (15 : Int32)) hx hb dX6_local_131 (by decide) ?_
  refine lv_aload_n hx hb dX6_local_133 rfl (lv_at hl 1 rfl) ?_
  refine gf_X6_9 X J dX6_local_134 ?_
  refine lv_iload hx hb dX6_local_137 (lv_at hl 0 rfl) ?_
  obtain ⟨r21, σ22, hc, hf⟩ := obd_some hf
  refine zr_callNi (As := [.int x10]) (rest := [.int (15 : Int32), .ref (ad q20)]) X J 3 ho_C_X1.1 ho_C_X1.2.1 ho_C_X1.2.2 yy_X1_inFrame mw_methodLinkNest_TinyCReader_244_TinyCDesk_inFrame_II_TinyC (d := 0) (zR_ok (by omega) (by decide)) hl.1 rfl (Nat.le_of_ble_eq_true rfl) (tX1_inFrame  hc) dX6_local_139 (fun H locs J => ?_)
  refine lv_iload hx hb dX6_local_142 (lv_at hl 3 rfl) ?_
  refine lv_iconst (v := (-1 : Int32)) hx hb dX6_local_144 (by decide) ?_
  obtain ⟨r23, σ24, hc, hf⟩ := obd_some hf
  refine zr_callNi (As := [.int (15 : Int32), .int r21, .int x4_, .int (-1 : Int32)]) (rest := []) X J q20 (ho_C_X9 hq20).1 (ho_C_X9 hq20).2.1 (ho_C_X9 hq20).2.2 yy_X9_add mw_methodLinkNest_TinyCReader_169_TinyCTree_add_IIIII_TinyC (d := 0) (zR_ok (by omega) (by decide)) hl.1 rfl (Nat.le_of_ble_eq_true rfl) (tX9_add hq20 hc) dX6_local_145 (fun H locs J => ?_)
  exact zr_iret X J hf dX6_local_148
set_option maxHeartbeats 4000000 in
theorem tX6_local {a1_ : Int32}  {σ u : zSt} {r : Int32} (hf : fX6_local ln N M a1_ σ = some (r, u)) : zMi l yX6_local cX6_local 6 (some .int) (4 * M + 4) D cy shC ad ts ln [.ref (ad 2), .int a1_] σ r u := by
  refine zM_of (by decide) (Nat.le_of_ble_eq_true rfl) (fun p e s m args below meth c ls ha X J hl => ?_)
  have hx := X.1
  have hb := X.2.1
  have hl : lv_has ls 6 [(0, .ref (ad 2)), (1, .int a1_)] := hl
  generalize s.heap = H at J ⊢
  generalize ([] : List Loc) = locs at J ⊢
  show W p l e (zRm (4 * M + 4)) s m args below meth c H locs 0 0 (zQi D cy shC ad ts ln below args s (r, u)) (F0 m 0 ls [])
  unfold fX6_local at hf
  refine lv_aload_n hx hb dX6_local_0 rfl (lv_at hl 0 rfl) ?_
  refine gf_X6_21 X J dX6_local_1 ?_
  obtain ⟨r1, σ2, hc, hf⟩ := obd_some hf
  refine zr_callNv (As := []) (rest := []) X J 1 ho_C_X7.1 ho_C_X7.2.1 ho_C_X7.2.2 yy_X7_come mw_methodLinkNest_TinyCReader_81_TinyCScan_come_V_TinyC (d := 1) (zR_ok (by omega) (by decide)) hl.1 rfl (Nat.le_of_ble_eq_true rfl) (tX7_come  hc) dX6_local_4 (fun H locs J => ?_)
  refine lv_aload_n hx hb dX6_local_7 rfl (lv_at hl 0 rfl) ?_
  refine gf_X6_21 X J dX6_local_8 ?_
  refine gf_X6_87 X J dX6_local_11 ?_
  refine lv_topl (fun x3 eq => ?_)
  have hf := bnd_eq eq hf
  clear eq
  refine lv_lstore_n hx hb dX6_local_14 rfl hl (by decide) rfl (fun ls hl => ?_)
  have hl : lv_has ls 6 [(2, .long x3), (0, .ref (ad 2)), (1, .int a1_)] := hl
  refine lv_aload_n hx hb dX6_local_15 rfl (lv_at hl 1 rfl) ?_
  refine lv_iload_n hx hb dX6_local_16 rfl (lv_at hl 2 rfl) ?_
  obtain ⟨r4, σ5, hc, hf⟩ := obd_some hf
  refine zr_callv (As := [.int a1_]) (rest := []) X J 2 ho_C_X6.1 ho_C_X6.2.1 ho_C_X6.2.2 yy_X6_toldName mw_methodLink_TinyCReader_91_TinyCReader_toldName_IV (d := 2) (zR_ok (by omega) (by decide)) hl.1 rfl (Nat.le_of_ble_eq_true rfl) (tX6_toldName  hc) dX6_local_17 (fun H locs J => ?_)
  refine lv_iconst (v := (-1 : Int32)) hx hb dX6_local_20 (by decide) ?_
  refine lv_topi (fun x6 eq => ?_)
  have hf := bnd_eq eq hf
  clear eq
  refine lv_istore hx hb dX6_local_21 hl (by decide) rfl (fun ls hl => ?_)
  have hl : lv_has ls 6 [(4, .int x6), (2, .long x3), (0, .ref (ad 2)), (1, .int a1_)] := hl
  refine lv_aload_n hx hb dX6_local_23 rfl (lv_at hl 2 rfl) ?_
  refine gf_X6_21 X J dX6_local_24 ?_
  refine gf_X6_78 X J dX6_local_27 ?_
  refine lv_bipush (v := (57 : Int32)) hx hb dX6_local_30 (by decide) ?_
  refine lv_icmp_ne hx hb dX6_local_32 rfl (fun h => ?_) (fun h => ?_)
  · have hf := itn h hf
    refine lv_aload_n hx hb dX6_local_56 rfl (lv_at hl 2 rfl) ?_
    obtain ⟨q7, hq7, er, hf⟩ := rbd_some hf
    refine gf_X6_51 X J er dX6_local_57 ?_
    refine lv_iconst (v := (1 : Int32)) hx hb dX6_local_60 (by decide) ?_
    refine lv_iconst (v := (0 : Int32)) hx hb dX6_local_61 (by decide) ?_
    obtain ⟨r8, σ9, hc, hf⟩ := obd_some hf
    refine zr_callNv (As := [.int (1 : Int32), .int (0 : Int32)]) (rest := []) X J q7 (ho_C_X0 hq7).1 (ho_C_X0 hq7).2.1 (ho_C_X0 hq7).2.2 yy_X0_addWith mw_methodLinkNest_TinyCReader_196_TinyCCode_addWith_IIV_TinyC (d := 0) (zR_ok (by omega) (by decide)) hl.1 rfl (Nat.le_of_ble_eq_true rfl) (tX0_addWith hq7 hc) dX6_local_62 (fun H locs J => ?_)
    exact bX6_local_65 X   J (lv_sub hl [2, 1, 0] rfl) hf
  · have hf := itp h hf
    refine lv_aload_n hx hb dX6_local_35 rfl (lv_at hl 2 rfl) ?_
    refine gf_X6_21 X J dX6_local_36 ?_
    obtain ⟨r25, σ26, hc, hf⟩ := obd_some hf
    refine zr_callNv (As := []) (rest := []) X J 1 ho_C_X7.1 ho_C_X7.2.1 ho_C_X7.2.2 yy_X7_come mw_methodLinkNest_TinyCReader_81_TinyCScan_come_V_TinyC (d := 1) (zR_ok (by omega) (by decide)) hl.1 rfl (Nat.le_of_ble_eq_true rfl) (tX7_come  hc) dX6_local_39 (fun H locs J => ?_)
    refine lv_aload_n hx hb dX6_local_42 rfl (lv_at hl 2 rfl) ?_
    refine gf_X6_32 X J dX6_local_43 ?_
    refine lv_bipush (v := (56 : Int32)) hx hb dX6_local_46 (by decide) ?_
    obtain ⟨r27, σ28, hc, hf⟩ := obd_some hf
    refine zr_callNi (As := [.int (56 : Int32)]) (rest := []) X J 5 ho_C_X2.1 ho_C_X2.2.1 ho_C_X2.2.2 yy_X2_expression mw_methodLinkNest_TinyCReader_235_TinyCExpressions_expression_II_TinyC (d := 4 * M + 3) (zR_ok (by omega) (by decide)) hl.1 rfl (Nat.le_of_ble_eq_true rfl) (tX2_expression () _ _ _ _ hc) dX6_local_48 (fun H locs J => ?_)
    refine lv_istore hx hb dX6_local_51 hl (by decide) rfl (fun ls hl => ?_)
    have hl : lv_has ls 6 [(4, .int r27), (2, .long x3), (0, .ref (ad 2)), (1, .int a1_)] := hl
    refine lv_goto hx hb dX6_local_53 rfl ?_
    exact bX6_local_65 X   J (lv_sub hl [2, 1, 0] rfl) hf
set_option maxHeartbeats 4000000 in
theorem bX6_block_142 {o : Int32 × zSt} {K : zSt → Option (Int32 × zSt)} {dk : Nat} (hdk : 4 * M + 6 ≤ dk) (hK : ∀  (σ u : zSt) (r : Int32), K  σ = some (r, u) → zMi l yX6_statement cX6_statement 3 (some .int) dk D cy shC ad ts ln [.ref (ad 2)] σ r u) (X : zX p s m args meth c D cy shC ad ts cX6_block 8 (some .int) RX6)  {x1_ : Int32} {x2_ : Int32} {x3_ : Int32}  {σ : zSt} {H : Heap} {locs : List Loc} {ls : Array Slot} (J : zJ D cy shC ad ln s σ H locs) (hl : lv_has ls 8 [(0, .ref (ad 2)), (1, .int x1_), (2, .int x2_), (3, .int x3_)]) (hf : fX6_block_b142 ln N M K  x1_ x2_ x3_ σ = some o) : W p l e (zRm (dk + 1)) s m args below meth c H locs 0 0 (zQi D cy shC ad ts ln below args s o) (F0 m 142 ls []) := by
  have hx := X.1
  have hb := X.2.1
  unfold fX6_block_b142 at hf
  refine lv_aload_n hx hb dX6_block_142 rfl (lv_at hl 0 rfl) ?_
  refine gf_X6_26 X J dX6_block_143 ?_
  refine lv_iload_n hx hb dX6_block_146 rfl (lv_at hl 1 rfl) ?_
  obtain ⟨r9, σ10, hc, hf⟩ := obd_some hf
  refine zr_callNv (As := [.int x1_]) (rest := []) X J 4 ho_C_X4.1 ho_C_X4.2.1 ho_C_X4.2.2 yy_X4_cutTo mw_methodLinkNest_TinyCReader_214_TinyCNames_cutTo_IV_TinyC (d := 1) (zR_ok (by omega) (by decide)) hl.1 rfl (Nat.le_of_ble_eq_true rfl) (tX4_cutTo  hc) dX6_block_147 (fun H locs J => ?_)
  refine lv_aload_n hx hb dX6_block_150 rfl (lv_at hl 0 rfl) ?_
  refine lv_iload_n hx hb dX6_block_151 rfl (lv_at hl 2 rfl) ?_
  refine pf_X6_190 X J dX6_block_152 (fun σ11 H locs eq J => ?_)
  have hf := bnd_eq eq hf
  clear eq
  refine lv_aload_n hx hb dX6_block_155 rfl (lv_at hl 0 rfl) ?_
  refine gf_X6_9 X J dX6_block_156 ?_
  obtain ⟨r12, σ13, hc, hf⟩ := obd_some hf
  refine zr_callNv (As := []) (rest := []) X J 3 ho_C_X1.1 ho_C_X1.2.1 ho_C_X1.2.2 yy_X1_leave mw_methodLinkNest_TinyCReader_220_TinyCDesk_leave_V_TinyC (d := 0) (zR_ok (by omega) (by decide)) hl.1 rfl (Nat.le_of_ble_eq_true rfl) (tX1_leave  hc) dX6_block_159 (fun H locs J => ?_)
  refine lv_aload_n hx hb dX6_block_162 rfl (lv_at hl 0 rfl) ?_
  refine gf_X6_21 X J dX6_block_163 ?_
  obtain ⟨r14, σ15, hc, hf⟩ := obd_some hf
  refine zr_callNv (As := []) (rest := []) X J 1 ho_C_X7.1 ho_C_X7.2.1 ho_C_X7.2.2 yy_X7_come mw_methodLinkNest_TinyCReader_81_TinyCScan_come_V_TinyC (d := 1) (zR_ok (by omega) (by decide)) hl.1 rfl (Nat.le_of_ble_eq_true rfl) (tX7_come  hc) dX6_block_166 (fun H locs J => ?_)
  refine lv_iload_n hx hb dX6_block_169 rfl (lv_at hl 3 rfl) ?_
  exact zr_iret X J hf dX6_block_170
set_option maxHeartbeats 4000000 in
theorem bX6_block_131 {o : Int32 × zSt} {K : zSt → Option (Int32 × zSt)} {dk : Nat} (hdk : 4 * M + 6 ≤ dk) (hK : ∀  (σ u : zSt) (r : Int32), K  σ = some (r, u) → zMi l yX6_statement cX6_statement 3 (some .int) dk D cy shC ad ts ln [.ref (ad 2)] σ r u) (X : zX p s m args meth c D cy shC ad ts cX6_block 8 (some .int) RX6) {k31 : Int32 → Int32 → Int32 → Int32 → Int32 → Int32 → zSt → Option (Int32 × zSt)} (hk31 : ∀ (x1_ : Int32) (x2_ : Int32) (x3_ : Int32) (x4_ : Int32) (x5_ : Int32) (x6_ : Int32) (σ : zSt) (H : Heap) (locs : List Loc) (ls : Array Slot), zJ D cy shC ad ln s σ H locs → lv_has ls 8 [(0, .ref (ad 2)), (1, .int x1_), (2, .int x2_), (3, .int x3_), (4, .int x4_), (5, .int x5_), (6, .int x6_)] → k31 x1_ x2_ x3_ x4_ x5_ x6_ σ = some o → W p l e (zRm (dk + 1)) s m args below meth c H locs 0 0 (zQi D cy shC ad ts ln below args s o) (F0 m 31 ls [])) {x1_ : Int32} {x2_ : Int32} {x5_ : Int32} {x6_ : Int32} {x7_ : Int32} {s0_ : Int32}  {σ : zSt} {H : Heap} {locs : List Loc} {ls : Array Slot} (J : zJ D cy shC ad ln s σ H locs) (hl : lv_has ls 8 [(0, .ref (ad 2)), (1, .int x1_), (2, .int x2_), (5, .int x5_), (6, .int x6_), (7, .int x7_)]) (hf : fX6_block_b131 ln N M K k31 x1_ x2_ x5_ x6_ x7_ s0_ σ = some o) : W p l e (zRm (dk + 1)) s m args below meth c H locs 0 0 (zQi D cy shC ad ts ln below args s o) (F0 m 131 ls [.int s0_]) := by
  have hx := X.1
  have hb := X.2.1
  unfold fX6_block_b131 at hf
  refine lv_istore_n hx hb dX6_block_131 rfl hl (by decide) rfl (fun ls hl => ?_)
  have hl : lv_has ls 8 [(3, .int s0_), (0, .ref (ad 2)), (1, .int x1_), (2, .int x2_), (5, .int x5_), (6, .int x6_), (7, .int x7_)] := hl
  refine lv_iload hx hb dX6_block_132 (lv_at hl 6 rfl) ?_
  refine lv_istore hx hb dX6_block_134 hl (by decide) rfl (fun ls hl => ?_)
  have hl : lv_has ls 8 [(4, .int x7_), (3, .int s0_), (0, .ref (ad 2)), (1, .int x1_), (2, .int x2_), (5, .int x5_), (6, .int x6_), (7, .int x7_)] := hl
  obtain ⟨x21, eq⟩ : ∃ z, z = x6_ + (1 : Int32) := ⟨_, rfl⟩
  have hf := bnd_eq eq hf
  refine lv_iinc hx hb dX6_block_136 hl (k := 6) rfl (v := x21) (by rw [eq]; rfl) (by decide) rfl (fun ls hl => ?_)
  clear eq
  have hl : lv_has ls 8 [(6, .int x21), (4, .int x7_), (3, .int s0_), (0, .ref (ad 2)), (1, .int x1_), (2, .int x2_), (5, .int x5_), (7, .int x7_)] := hl
  refine lv_goto hx hb dX6_block_139 rfl ?_
  exact hk31 _ _ _ _ _ _ _ _ _ _ J (lv_sub hl [3, 4, 5, 2, 1, 6, 0] rfl) hf
set_option maxHeartbeats 4000000 in
theorem bX6_block_107 {o : Int32 × zSt} {K : zSt → Option (Int32 × zSt)} {dk : Nat} (hdk : 4 * M + 6 ≤ dk) (hK : ∀  (σ u : zSt) (r : Int32), K  σ = some (r, u) → zMi l yX6_statement cX6_statement 3 (some .int) dk D cy shC ad ts ln [.ref (ad 2)] σ r u) (X : zX p s m args meth c D cy shC ad ts cX6_block 8 (some .int) RX6) {k31 : Int32 → Int32 → Int32 → Int32 → Int32 → Int32 → zSt → Option (Int32 × zSt)} (hk31 : ∀ (x1_ : Int32) (x2_ : Int32) (x3_ : Int32) (x4_ : Int32) (x5_ : Int32) (x6_ : Int32) (σ : zSt) (H : Heap) (locs : List Loc) (ls : Array Slot), zJ D cy shC ad ln s σ H locs → lv_has ls 8 [(0, .ref (ad 2)), (1, .int x1_), (2, .int x2_), (3, .int x3_), (4, .int x4_), (5, .int x5_), (6, .int x6_)] → k31 x1_ x2_ x3_ x4_ x5_ x6_ σ = some o → W p l e (zRm (dk + 1)) s m args below meth c H locs 0 0 (zQi D cy shC ad ts ln below args s o) (F0 m 31 ls [])) {x1_ : Int32} {x2_ : Int32} {x3_ : Int32} {x4_ : Int32} {x5_ : Int32} {x6_ : Int32} {s0_ : Int32}  {σ : zSt} {H : Heap} {locs : List Loc} {ls : Array Slot} (J : zJ D cy shC ad ln s σ H locs) (hl : lv_has ls 8 [(0, .ref (ad 2)), (1, .int x1_), (2, .int x2_), (3, .int x3_), (4, .int x4_), (5, .int x5_), (6, .int x6_)]) (hf : fX6_block_b107 ln N M K k31 x1_ x2_ x3_ x4_ x5_ x6_ s0_ σ = some o) : W p l e (zRm (dk + 1)) s m args below meth c H locs 0 0 (zQi D cy shC ad ts ln below args s o) (F0 m 107 ls [.int s0_]) := by
  have hx := X.1
  have hb := X.2.1
  unfold fX6_block_b107 at hf
  refine lv_istore hx hb dX6_block_107 hl (by decide) rfl (fun ls hl => ?_)
  have hl : lv_has ls 8 [(7, .int s0_), (0, .ref (ad 2)), (1, .int x1_), (2, .int x2_), (3, .int x3_), (4, .int x4_), (5, .int x5_), (6, .int x6_)] := hl
  refine lv_aload_n hx hb dX6_block_109 rfl (lv_at hl 1 rfl) ?_
  obtain ⟨q18, hq18, er, hf⟩ := rbd_some hf
  refine gf_X6_46 X J er dX6_block_110 ?_
  refine lv_iload hx hb dX6_block_113 (lv_at hl 5 rfl) ?_
  refine lv_iload hx hb dX6_block_115 (lv_at hl 0 rfl) ?_
  obtain ⟨r19, σ20, hc, hf⟩ := obd_some hf
  refine zr_callNv (As := [.int x4_, .int s0_]) (rest := []) X J q18 (ho_C_X9 hq18).1 (ho_C_X9 hq18).2.1 (ho_C_X9 hq18).2.2 yy_X9_setNext mw_methodLinkNest_TinyCReader_232_TinyCTree_setNext_IIV_TinyC (d := 0) (zR_ok (by omega) (by decide)) hl.1 rfl (Nat.le_of_ble_eq_true rfl) (tX9_setNext hq18 hc) dX6_block_117 (fun H locs J => ?_)
  refine lv_iload hx hb dX6_block_120 (lv_at hl 7 rfl) ?_
  refine lv_if_ne hx hb dX6_block_122 rfl (fun h => ?_) (fun h => ?_)
  · have hf := itn h hf
    refine lv_iload_n hx hb dX6_block_130 rfl (lv_at hl 4 rfl) ?_
    exact bX6_block_131 hdk hK X hk31  J (lv_sub hl [1, 2, 3, 6, 7, 0] rfl) hf
  · have hf := itp h hf
    refine lv_iload hx hb dX6_block_125 (lv_at hl 0 rfl) ?_
    refine lv_goto hx hb dX6_block_127 rfl ?_
    exact bX6_block_131 hdk hK X hk31  J (lv_sub hl [1, 2, 3, 6, 7, 0] rfl) hf
set_option maxHeartbeats 4000000 in
theorem bX6_block_88 {o : Int32 × zSt} {K : zSt → Option (Int32 × zSt)} {dk : Nat} (hdk : 4 * M + 6 ≤ dk) (hK : ∀  (σ u : zSt) (r : Int32), K  σ = some (r, u) → zMi l yX6_statement cX6_statement 3 (some .int) dk D cy shC ad ts ln [.ref (ad 2)] σ r u) (X : zX p s m args meth c D cy shC ad ts cX6_block 8 (some .int) RX6) {k31 : Int32 → Int32 → Int32 → Int32 → Int32 → Int32 → zSt → Option (Int32 × zSt)} (hk31 : ∀ (x1_ : Int32) (x2_ : Int32) (x3_ : Int32) (x4_ : Int32) (x5_ : Int32) (x6_ : Int32) (σ : zSt) (H : Heap) (locs : List Loc) (ls : Array Slot), zJ D cy shC ad ln s σ H locs → lv_has ls 8 [(0, .ref (ad 2)), (1, .int x1_), (2, .int x2_), (3, .int x3_), (4, .int x4_), (5, .int x5_), (6, .int x6_)] → k31 x1_ x2_ x3_ x4_ x5_ x6_ σ = some o → W p l e (zRm (dk + 1)) s m args below meth c H locs 0 0 (zQi D cy shC ad ts ln below args s o) (F0 m 31 ls [])) {x1_ : Int32} {x2_ : Int32} {x3_ : Int32} {x4_ : Int32} {x6_ : Int32} {s0_ : Int32}  {σ : zSt} {H : Heap} {locs : List Loc} {ls : Array Slot} (J : zJ D cy shC ad ln s σ H locs) (hl : lv_has ls 8 [(0, .ref (ad 2)), (1, .int x1_), (2, .int x2_), (3, .int x3_), (4, .int x4_), (6, .int x6_)]) (hf : fX6_block_b88 ln N M K k31 x1_ x2_ x3_ x4_ x6_ s0_ σ = some o) : W p l e (zRm (dk + 1)) s m args below meth c H locs 0 0 (zQi D cy shC ad ts ln below args s o) (F0 m 88 ls [.int s0_]) := by
  have hx := X.1
  have hb := X.2.1
  unfold fX6_block_b88 at hf
  refine lv_istore hx hb dX6_block_88 hl (by decide) rfl (fun ls hl => ?_)
  have hl : lv_has ls 8 [(5, .int s0_), (0, .ref (ad 2)), (1, .int x1_), (2, .int x2_), (3, .int x3_), (4, .int x4_), (6, .int x6_)] := hl
  refine lv_iload hx hb dX6_block_90 (lv_at hl 0 rfl) ?_
  refine lv_if_eq hx hb dX6_block_92 rfl (fun h => ?_) (fun h => ?_)
  · have hf := itp h hf
    refine lv_aload_n hx hb dX6_block_103 rfl (lv_at hl 1 rfl) ?_
    obtain ⟨r16, σ17, hc, hf⟩ := obd_some hf
    refine zr_calli (As := []) (rest := []) X J 2 ho_C_X6.1 ho_C_X6.2.1 ho_C_X6.2.2 yy_X6_statement mw_methodLink_TinyCReader_229_TinyCReader_statement_I (d := dk) (zR_ok (by omega) (by decide)) hl.1 rfl (Nat.le_of_ble_eq_true rfl) (hK _ _ _ hc) dX6_block_104 (fun H locs J => ?_)
    exact bX6_block_107 hdk hK X hk31  J (lv_sub hl [1, 2, 3, 4, 5, 0, 6] rfl) hf
  · have hf := itn h hf
    refine lv_aload_n hx hb dX6_block_95 rfl (lv_at hl 1 rfl) ?_
    refine lv_iload_n hx hb dX6_block_96 rfl (lv_at hl 2 rfl) ?_
    obtain ⟨r22, σ23, hc, hf⟩ := obd_some hf
    refine zr_calli (As := [.int x1_]) (rest := []) X J 2 ho_C_X6.1 ho_C_X6.2.1 ho_C_X6.2.2 yy_X6_local mw_methodLink_TinyCReader_226_TinyCReader_local_II (d := 4 * M + 4) (zR_ok (by omega) (by decide)) hl.1 rfl (Nat.le_of_ble_eq_true rfl) (tX6_local  hc) dX6_block_97 (fun H locs J => ?_)
    refine lv_goto hx hb dX6_block_100 rfl ?_
    exact bX6_block_107 hdk hK X hk31  J (lv_sub hl [1, 2, 3, 4, 5, 0, 6] rfl) hf
set_option maxHeartbeats 4000000 in
theorem bX6_block_87 {o : Int32 × zSt} {K : zSt → Option (Int32 × zSt)} {dk : Nat} (hdk : 4 * M + 6 ≤ dk) (hK : ∀  (σ u : zSt) (r : Int32), K  σ = some (r, u) → zMi l yX6_statement cX6_statement 3 (some .int) dk D cy shC ad ts ln [.ref (ad 2)] σ r u) (X : zX p s m args meth c D cy shC ad ts cX6_block 8 (some .int) RX6) {k31 : Int32 → Int32 → Int32 → Int32 → Int32 → Int32 → zSt → Option (Int32 × zSt)} (hk31 : ∀ (x1_ : Int32) (x2_ : Int32) (x3_ : Int32) (x4_ : Int32) (x5_ : Int32) (x6_ : Int32) (σ : zSt) (H : Heap) (locs : List Loc) (ls : Array Slot), zJ D cy shC ad ln s σ H locs → lv_has ls 8 [(0, .ref (ad 2)), (1, .int x1_), (2, .int x2_), (3, .int x3_), (4, .int x4_), (5, .int x5_), (6, .int x6_)] → k31 x1_ x2_ x3_ x4_ x5_ x6_ σ = some o → W p l e (zRm (dk + 1)) s m args below meth c H locs 0 0 (zQi D cy shC ad ts ln below args s o) (F0 m 31 ls [])) {x1_ : Int32} {x2_ : Int32} {x3_ : Int32} {x4_ : Int32} {x6_ : Int32}  {σ : zSt} {H : Heap} {locs : List Loc} {ls : Array Slot} (J : zJ D cy shC ad ln s σ H locs) (hl : lv_has ls 8 [(0, .ref (ad 2)), (1, .int x1_), (2, .int x2_), (3, .int x3_), (4, .int x4_), (6, .int x6_)]) (hf : fX6_block_b87 ln N M K k31 x1_ x2_ x3_ x4_ x6_ σ = some o) : W p l e (zRm (dk + 1)) s m args below meth c H locs 0 0 (zQi D cy shC ad ts ln below args s o) (F0 m 87 ls []) := by
  have hx := X.1
  have hb := X.2.1
  unfold fX6_block_b87 at hf
  refine lv_iconst (v := (0 : Int32)) hx hb dX6_block_87 (by decide) ?_
  exact bX6_block_88 hdk hK X hk31  J (lv_sub hl [0, 1, 2, 3, 4, 5] rfl) hf
set_option maxHeartbeats 4000000 in
theorem bX6_block_31 {o : Int32 × zSt} {K : zSt → Option (Int32 × zSt)} {dk : Nat} (hdk : 4 * M + 6 ≤ dk) (hK : ∀  (σ u : zSt) (r : Int32), K  σ = some (r, u) → zMi l yX6_statement cX6_statement 3 (some .int) dk D cy shC ad ts ln [.ref (ad 2)] σ r u) (X : zX p s m args meth c D cy shC ad ts cX6_block 8 (some .int) RX6)  : ∀ (n : Nat) (x1_ : Int32) (x2_ : Int32) (x3_ : Int32) (x4_ : Int32) (x5_ : Int32) (x6_ : Int32) (σ : zSt) (H : Heap) (locs : List Loc) (ls : Array Slot), zJ D cy shC ad ln s σ H locs → lv_has ls 8 [(0, .ref (ad 2)), (1, .int x1_), (2, .int x2_), (3, .int x3_), (4, .int x4_), (5, .int x5_), (6, .int x6_)] → fX6_block_b31 ln N M K  n x1_ x2_ x3_ x4_ x5_ x6_ σ = some o → W p l e (zRm (dk + 1)) s m args below meth c H locs 0 0 (zQi D cy shC ad ts ln below args s o) (F0 m 31 ls []) := by
  have hx := X.1
  have hb := X.2.1
  intro n
  induction n with
  | zero =>
    intro x1_ x2_ x3_ x4_ x5_ x6_ σ H locs ls J hl hf
    rw [fX6_block_b31] at hf
    cases hf
  | succ n ih =>
    intro x1_ x2_ x3_ x4_ x5_ x6_ σ H locs ls J hl hf
    rw [fX6_block_b31] at hf
    refine lv_iload hx hb dX6_block_31 (lv_at hl 6 rfl) ?_
    refine lv_aload_n hx hb dX6_block_33 rfl (lv_at hl 0 rfl) ?_
    refine gf_X6_21 X J dX6_block_34 ?_
    refine gf_X6_74 X J dX6_block_37 ?_
    refine lv_icmp_gt hx hb dX6_block_40 rfl (fun h => ?_) (fun h => ?_)
    · have hf := itp h hf
      exact bX6_block_142 hdk hK X   J (lv_sub hl [0, 1, 2, 3] rfl) hf
    · have hf := itn h hf
      refine lv_aload_n hx hb dX6_block_43 rfl (lv_at hl 0 rfl) ?_
      refine gf_X6_21 X J dX6_block_44 ?_
      refine gf_X6_78 X J dX6_block_47 ?_
      refine lv_bipush (v := (52 : Int32)) hx hb dX6_block_50 (by decide) ?_
      refine lv_icmp_eq hx hb dX6_block_52 rfl (fun h => ?_) (fun h => ?_)
      · have hf := itp h hf
        exact bX6_block_142 hdk hK X   J (lv_sub hl [0, 1, 2, 3] rfl) hf
      · have hf := itn h hf
        refine lv_aload_n hx hb dX6_block_55 rfl (lv_at hl 0 rfl) ?_
        refine gf_X6_21 X J dX6_block_56 ?_
        refine gf_X6_78 X J dX6_block_59 ?_
        refine lv_iconst (v := (-1 : Int32)) hx hb dX6_block_62 (by decide) ?_
        refine lv_icmp_eq hx hb dX6_block_63 rfl (fun h => ?_) (fun h => ?_)
        · have hf := itp h hf
          exact bX6_block_142 hdk hK X   J (lv_sub hl [0, 1, 2, 3] rfl) hf
        · have hf := itn h hf
          refine lv_iload hx hb dX6_block_66 (lv_at hl 5 rfl) ?_
          refine lv_if_eq hx hb dX6_block_68 rfl (fun h => ?_) (fun h => ?_)
          · have hf := itp h hf
            exact bX6_block_87 hdk hK X ih  J (lv_sub hl [0, 1, 2, 3, 4, 6] rfl) hf
          · have hf := itn h hf
            refine lv_aload_n hx hb dX6_block_71 rfl (lv_at hl 0 rfl) ?_
            refine gf_X6_21 X J dX6_block_72 ?_
            refine gf_X6_78 X J dX6_block_75 ?_
            refine lv_bipush (v := (42 : Int32)) hx hb dX6_block_78 (by decide) ?_
            refine lv_icmp_ne hx hb dX6_block_80 rfl (fun h => ?_) (fun h => ?_)
            · have hf := itn h hf
              exact bX6_block_87 hdk hK X ih  J (lv_sub hl [0, 1, 2, 3, 4, 6] rfl) hf
            · have hf := itp h hf
              refine lv_iconst (v := (1 : Int32)) hx hb dX6_block_83 (by decide) ?_
              refine lv_goto hx hb dX6_block_84 rfl ?_
              exact bX6_block_88 hdk hK X ih  J (lv_sub hl [0, 1, 2, 3, 4, 6] rfl) hf
set_option maxHeartbeats 4000000 in
theorem tX6_block {K : zSt → Option (Int32 × zSt)} {dk : Nat} (hdk : 4 * M + 6 ≤ dk) (hK : ∀  (σ u : zSt) (r : Int32), K  σ = some (r, u) → zMi l yX6_statement cX6_statement 3 (some .int) dk D cy shC ad ts ln [.ref (ad 2)] σ r u)   {σ u : zSt} {r : Int32} (hf : fX6_block ln N M K  σ = some (r, u)) : zMi l yX6_block cX6_block 8 (some .int) (dk + 1) D cy shC ad ts ln [.ref (ad 2)] σ r u := by
  refine zM_of (by decide) (Nat.le_of_ble_eq_true rfl) (fun p e s m args below meth c ls ha X J hl => ?_)
  have hx := X.1
  have hb := X.2.1
  have hl : lv_has ls 8 [(0, .ref (ad 2))] := hl
  generalize s.heap = H at J ⊢
  generalize ([] : List Loc) = locs at J ⊢
  show W p l e (zRm (dk + 1)) s m args below meth c H locs 0 0 (zQi D cy shC ad ts ln below args s (r, u)) (F0 m 0 ls [])
  unfold fX6_block at hf
  refine lv_aload_n hx hb dX6_block_0 rfl (lv_at hl 0 rfl) ?_
  refine gf_X6_26 X J dX6_block_1 ?_
  refine gf_X6_163 X J dX6_block_4 ?_
  refine lv_topi (fun x1 eq => ?_)
  have hf := bnd_eq eq hf
  clear eq
  refine lv_istore_n hx hb dX6_block_7 rfl hl (by decide) rfl (fun ls hl => ?_)
  have hl : lv_has ls 8 [(1, .int x1), (0, .ref (ad 2))] := hl
  refine lv_aload_n hx hb dX6_block_8 rfl (lv_at hl 1 rfl) ?_
  refine gf_X6_190 X J dX6_block_9 ?_
  refine lv_topi (fun x2 eq => ?_)
  have hf := bnd_eq eq hf
  clear eq
  refine lv_istore_n hx hb dX6_block_12 rfl hl (by decide) rfl (fun ls hl => ?_)
  have hl : lv_has ls 8 [(2, .int x2), (1, .int x1), (0, .ref (ad 2))] := hl
  refine lv_iconst (v := (-1 : Int32)) hx hb dX6_block_13 (by decide) ?_
  refine lv_topi (fun x3 eq => ?_)
  have hf := bnd_eq eq hf
  clear eq
  refine lv_istore_n hx hb dX6_block_14 rfl hl (by decide) rfl (fun ls hl => ?_)
  have hl : lv_has ls 8 [(3, .int x3), (2, .int x2), (1, .int x1), (0, .ref (ad 2))] := hl
  refine lv_iconst (v := (-1 : Int32)) hx hb dX6_block_15 (by decide) ?_
  refine lv_topi (fun x4 eq => ?_)
  have hf := bnd_eq eq hf
  clear eq
  refine lv_istore hx hb dX6_block_16 hl (by decide) rfl (fun ls hl => ?_)
  have hl : lv_has ls 8 [(4, .int x4), (3, .int x3), (2, .int x2), (1, .int x1), (0, .ref (ad 2))] := hl
  refine lv_iconst (v := (1 : Int32)) hx hb dX6_block_18 (by decide) ?_
  refine lv_topi (fun x5 eq => ?_)
  have hf := bnd_eq eq hf
  clear eq
  refine lv_istore hx hb dX6_block_19 hl (by decide) rfl (fun ls hl => ?_)
  have hl : lv_has ls 8 [(5, .int x5), (4, .int x4), (3, .int x3), (2, .int x2), (1, .int x1), (0, .ref (ad 2))] := hl
  refine lv_aload_n hx hb dX6_block_21 rfl (lv_at hl 5 rfl) ?_
  refine gf_X6_21 X J dX6_block_22 ?_
  obtain ⟨r6, σ7, hc, hf⟩ := obd_some hf
  refine zr_callNv (As := []) (rest := []) X J 1 ho_C_X7.1 ho_C_X7.2.1 ho_C_X7.2.2 yy_X7_come mw_methodLinkNest_TinyCReader_81_TinyCScan_come_V_TinyC (d := 1) (zR_ok (by omega) (by decide)) hl.1 rfl (Nat.le_of_ble_eq_true rfl) (tX7_come  hc) dX6_block_25 (fun H locs J => ?_)
  refine lv_iconst (v := (0 : Int32)) hx hb dX6_block_28 (by decide) ?_
  refine lv_topi (fun x8 eq => ?_)
  have hf := bnd_eq eq hf
  clear eq
  refine lv_istore hx hb dX6_block_29 hl (by decide) rfl (fun ls hl => ?_)
  have hl : lv_has ls 8 [(6, .int x8), (5, .int x5), (4, .int x4), (3, .int x3), (2, .int x2), (1, .int x1), (0, .ref (ad 2))] := hl
  exact bX6_block_31 hdk hK X  N _ _ _ _ _ _ _ _ _ _ J (lv_sub hl [6, 5, 4, 3, 2, 1, 0] rfl) hf
set_option maxHeartbeats 4000000 in
theorem tX9_setParts {q_ : Nat} (hq_ : q_ = 11 ∨ q_ = 12) {a1_ : Int32} {a2_ : Int32} {a3_ : Int32} {a4_ : Int32}  {σ u : zSt} {r : Unit} (hf : fX9_setParts ln N M q_ a1_ a2_ a3_ a4_ σ = some (r, u)) : zMv l yX9_setParts cX9_setParts 5 none (0) D cy shC ad ts ln [.ref (ad q_), .int a1_, .int a2_, .int a3_, .int a4_] σ u := by
  refine zM_of (by decide) (Nat.le_of_ble_eq_true rfl) (fun p e s m args below meth c ls ha X J hl => ?_)
  have hx := X.1
  have hb := X.2.1
  have hl : lv_has ls 5 [(0, .ref (ad q_)), (1, .int a1_), (2, .int a2_), (3, .int a3_), (4, .int a4_)] := hl
  generalize s.heap = H at J ⊢
  generalize ([] : List Loc) = locs at J ⊢
  show W p l e (zRm (0)) s m args below meth c H locs 0 0 (zQv D cy shC ad ts ln below args s (r, u)) (F0 m 0 ls [])
  unfold fX9_setParts at hf
  refine lv_iload_n hx hb dX9_setParts_0 rfl (lv_at hl 1 rfl) ?_
  refine lv_if_lt hx hb dX9_setParts_1 rfl (fun h => ?_) (fun h => ?_)
  · have hf := itp h hf
    exact zr_vret X J hf dX9_setParts_34
  · have hf := itn h hf
    refine lv_iload_n hx hb dX9_setParts_4 rfl (lv_at hl 1 rfl) ?_
    refine lv_aload_n hx hb dX9_setParts_5 rfl (lv_at hl 0 rfl) ?_
    refine gf_X9_28 hq_ X J dX9_setParts_6 ?_
    refine lv_icmp_ge hx hb dX9_setParts_9 rfl (fun h => ?_) (fun h => ?_)
    · have hf := itp h hf
      exact zr_vret X J hf dX9_setParts_34
    · have hf := itn h hf
      refine lv_aload_n hx hb dX9_setParts_12 rfl (lv_at hl 0 rfl) ?_
      refine gf_X9_16 hq_ X J dX9_setParts_13 ?_
      refine lv_iload_n hx hb dX9_setParts_16 rfl (lv_at hl 1 rfl) ?_
      refine lv_iload_n hx hb dX9_setParts_17 rfl (lv_at hl 2 rfl) ?_
      obtain ⟨hin, hf⟩ := itx hf
      refine as_X9_X9f2 hq_ X J hin dX9_setParts_18 (fun σ1 H locs eq J => ?_)
      have hf := bnd_eq eq hf
      clear eq
      refine lv_aload_n hx hb dX9_setParts_19 rfl (lv_at hl 0 rfl) ?_
      refine gf_X9_19 hq_ X J dX9_setParts_20 ?_
      refine lv_iload_n hx hb dX9_setParts_23 rfl (lv_at hl 1 rfl) ?_
      refine lv_iload_n hx hb dX9_setParts_24 rfl (lv_at hl 3 rfl) ?_
      obtain ⟨hin, hf⟩ := itx hf
      refine as_X9_X9f3 hq_ X J hin dX9_setParts_25 (fun σ2 H locs eq J => ?_)
      have hf := bnd_eq eq hf
      clear eq
      refine lv_aload_n hx hb dX9_setParts_26 rfl (lv_at hl 0 rfl) ?_
      refine gf_X9_22 hq_ X J dX9_setParts_27 ?_
      refine lv_iload_n hx hb dX9_setParts_30 rfl (lv_at hl 1 rfl) ?_
      refine lv_iload hx hb dX9_setParts_31 (lv_at hl 4 rfl) ?_
      obtain ⟨hin, hf⟩ := itx hf
      refine as_X9_X9f4 hq_ X J hin dX9_setParts_33 (fun σ3 H locs eq J => ?_)
      have hf := bnd_eq eq hf
      clear eq
      exact zr_vret X J hf dX9_setParts_34
set_option maxHeartbeats 4000000 in
theorem bX6_choice_138 {o : Int32 × zSt} {K : zSt → Option (Int32 × zSt)} {dk : Nat} (hdk : 4 * M + 6 ≤ dk) (hK : ∀  (σ u : zSt) (r : Int32), K  σ = some (r, u) → zMi l yX6_statement cX6_statement 3 (some .int) dk D cy shC ad ts ln [.ref (ad 2)] σ r u) (X : zX p s m args meth c D cy shC ad ts cX6_choice 6 (some .int) RX6)  {x1_ : Int32} {x2_ : Int32} {x3_ : Int32} {x4_ : Int32}  {σ : zSt} {H : Heap} {locs : List Loc} {ls : Array Slot} (J : zJ D cy shC ad ln s σ H locs) (hl : lv_has ls 6 [(0, .ref (ad 2)), (1, .int x1_), (2, .int x2_), (3, .int x3_), (4, .int x4_)]) (hf : fX6_choice_b138 ln N M K  x1_ x2_ x3_ x4_ σ = some o) : W p l e (zRm (dk + 1)) s m args below meth c H locs 0 0 (zQi D cy shC ad ts ln below args s o) (F0 m 138 ls []) := by
  have hx := X.1
  have hb := X.2.1
  unfold fX6_choice_b138 at hf
  refine lv_aload_n hx hb dX6_choice_138 rfl (lv_at hl 0 rfl) ?_
  refine gf_X6_9 X J dX6_choice_139 ?_
  obtain ⟨r17, σ18, hc, hf⟩ := obd_some hf
  refine zr_callNv (As := []) (rest := []) X J 3 ho_C_X1.1 ho_C_X1.2.1 ho_C_X1.2.2 yy_X1_leave mw_methodLinkNest_TinyCReader_220_TinyCDesk_leave_V_TinyC (d := 0) (zR_ok (by omega) (by decide)) hl.1 rfl (Nat.le_of_ble_eq_true rfl) (tX1_leave  hc) dX6_choice_142 (fun H locs J => ?_)
  refine lv_aload_n hx hb dX6_choice_145 rfl (lv_at hl 0 rfl) ?_
  obtain ⟨q19, hq19, er, hf⟩ := rbd_some hf
  refine gf_X6_51 X J er dX6_choice_146 ?_
  refine lv_iload_n hx hb dX6_choice_149 rfl (lv_at hl 2 rfl) ?_
  refine lv_aload_n hx hb dX6_choice_150 rfl (lv_at hl 0 rfl) ?_
  obtain ⟨q20, hq20, er, hf⟩ := rbd_some hf
  refine gf_X6_51 X J er dX6_choice_151 ?_
  refine gf_X6_162 hq20 X J dX6_choice_154 ?_
  obtain ⟨r21, σ22, hc, hf⟩ := obd_some hf
  refine zr_callNv (As := [.int x2_, .int (zI σ18 q20 1)]) (rest := []) X J q19 (ho_C_X0 hq19).1 (ho_C_X0 hq19).2.1 (ho_C_X0 hq19).2.2 yy_X0_set mw_methodLinkNest_TinyCReader_187_TinyCCode_set_IIV_TinyC (d := 0) (zR_ok (by omega) (by decide)) hl.1 rfl (Nat.le_of_ble_eq_true rfl) (tX0_set hq19 hc) dX6_choice_157 (fun H locs J => ?_)
  refine lv_aload_n hx hb dX6_choice_160 rfl (lv_at hl 0 rfl) ?_
  obtain ⟨q23, hq23, er, hf⟩ := rbd_some hf
  refine gf_X6_46 X J er dX6_choice_161 ?_
  refine lv_bipush (v := (10 : Int32)) hx hb dX6_choice_164 (by decide) ?_
  refine lv_iconst (v := (0 : Int32)) hx hb dX6_choice_166 (by decide) ?_
  refine lv_iconst (v := (-1 : Int32)) hx hb dX6_choice_167 (by decide) ?_
  refine lv_iconst (v := (-1 : Int32)) hx hb dX6_choice_168 (by decide) ?_
  obtain ⟨r24, σ25, hc, hf⟩ := obd_some hf
  refine zr_callNi (As := [.int (10 : Int32), .int (0 : Int32), .int (-1 : Int32), .int (-1 : Int32)]) (rest := []) X J q23 (ho_C_X9 hq23).1 (ho_C_X9 hq23).2.1 (ho_C_X9 hq23).2.2 yy_X9_add mw_methodLinkNest_TinyCReader_169_TinyCTree_add_IIIII_TinyC (d := 0) (zR_ok (by omega) (by decide)) hl.1 rfl (Nat.le_of_ble_eq_true rfl) (tX9_add hq23 hc) dX6_choice_169 (fun H locs J => ?_)
  refine lv_istore hx hb dX6_choice_172 hl (by decide) rfl (fun ls hl => ?_)
  have hl : lv_has ls 6 [(5, .int r24), (0, .ref (ad 2)), (1, .int x1_), (2, .int x2_), (3, .int x3_), (4, .int x4_)] := hl
  refine lv_aload_n hx hb dX6_choice_174 rfl (lv_at hl 1 rfl) ?_
  obtain ⟨q26, hq26, er, hf⟩ := rbd_some hf
  refine gf_X6_46 X J er dX6_choice_175 ?_
  refine lv_iload hx hb dX6_choice_178 (lv_at hl 0 rfl) ?_
  refine lv_iload_n hx hb dX6_choice_180 rfl (lv_at hl 2 rfl) ?_
  refine lv_iload_n hx hb dX6_choice_181 rfl (lv_at hl 4 rfl) ?_
  refine lv_iload hx hb dX6_choice_182 (lv_at hl 5 rfl) ?_
  obtain ⟨r27, σ28, hc, hf⟩ := obd_some hf
  refine zr_callNv (As := [.int r24, .int x1_, .int x3_, .int x4_]) (rest := []) X J q26 (ho_C_X9 hq26).1 (ho_C_X9 hq26).2.1 (ho_C_X9 hq26).2.2 yy_X9_setParts mw_methodLinkNest_TinyCReader_210_TinyCTree_setParts_IIIIV_TinyC (d := 0) (zR_ok (by omega) (by decide)) hl.1 rfl (Nat.le_of_ble_eq_true rfl) (tX9_setParts hq26 hc) dX6_choice_184 (fun H locs J => ?_)
  refine lv_iload hx hb dX6_choice_187 (lv_at hl 0 rfl) ?_
  exact zr_iret X J hf dX6_choice_189
set_option maxHeartbeats 4000000 in
theorem tX6_choice {K : zSt → Option (Int32 × zSt)} {dk : Nat} (hdk : 4 * M + 6 ≤ dk) (hK : ∀  (σ u : zSt) (r : Int32), K  σ = some (r, u) → zMi l yX6_statement cX6_statement 3 (some .int) dk D cy shC ad ts ln [.ref (ad 2)] σ r u)   {σ u : zSt} {r : Int32} (hf : fX6_choice ln N M K  σ = some (r, u)) : zMi l yX6_choice cX6_choice 6 (some .int) (dk + 1) D cy shC ad ts ln [.ref (ad 2)] σ r u := by
  refine zM_of (by decide) (Nat.le_of_ble_eq_true rfl) (fun p e s m args below meth c ls ha X J hl => ?_)
  have hx := X.1
  have hb := X.2.1
  have hl : lv_has ls 6 [(0, .ref (ad 2))] := hl
  generalize s.heap = H at J ⊢
  generalize ([] : List Loc) = locs at J ⊢
  show W p l e (zRm (dk + 1)) s m args below meth c H locs 0 0 (zQi D cy shC ad ts ln below args s (r, u)) (F0 m 0 ls [])
  unfold fX6_choice at hf
  refine lv_aload_n hx hb dX6_choice_0 rfl (lv_at hl 0 rfl) ?_
  refine gf_X6_9 X J dX6_choice_1 ?_
  obtain ⟨r1, σ2, hc, hf⟩ := obd_some hf
  refine zr_callNv (As := []) (rest := []) X J 3 ho_C_X1.1 ho_C_X1.2.1 ho_C_X1.2.2 yy_X1_enter mw_methodLinkNest_TinyCReader_199_TinyCDesk_enter_V_TinyC (d := 1) (zR_ok (by omega) (by decide)) hl.1 rfl (Nat.le_of_ble_eq_true rfl) (tX1_enter  hc) dX6_choice_4 (fun H locs J => ?_)
  refine lv_aload_n hx hb dX6_choice_7 rfl (lv_at hl 0 rfl) ?_
  refine gf_X6_9 X J dX6_choice_8 ?_
  refine lv_aload_n hx hb dX6_choice_11 rfl (lv_at hl 0 rfl) ?_
  refine gf_X6_21 X J dX6_choice_12 ?_
  refine gf_X6_84 X J dX6_choice_15 ?_
  obtain ⟨r3, σ4, hc, hf⟩ := obd_some hf
  refine zr_callNv (As := [.int (zI σ2 1 4)]) (rest := []) X J 3 ho_C_X1.1 ho_C_X1.2.1 ho_C_X1.2.2 yy_X1_takeCells mw_methodLinkNest_TinyCReader_159_TinyCDesk_takeCells_IV_TinyC (d := 1) (zR_ok (by omega) (by decide)) hl.1 rfl (Nat.le_of_ble_eq_true rfl) (tX1_takeCells  hc) dX6_choice_18 (fun H locs J => ?_)
  refine lv_aload_n hx hb dX6_choice_21 rfl (lv_at hl 0 rfl) ?_
  refine gf_X6_21 X J dX6_choice_22 ?_
  obtain ⟨r5, σ6, hc, hf⟩ := obd_some hf
  refine zr_callNv (As := []) (rest := []) X J 1 ho_C_X7.1 ho_C_X7.2.1 ho_C_X7.2.2 yy_X7_come mw_methodLinkNest_TinyCReader_81_TinyCScan_come_V_TinyC (d := 1) (zR_ok (by omega) (by decide)) hl.1 rfl (Nat.le_of_ble_eq_true rfl) (tX7_come  hc) dX6_choice_25 (fun H locs J => ?_)
  refine lv_aload_n hx hb dX6_choice_28 rfl (lv_at hl 0 rfl) ?_
  refine gf_X6_32 X J dX6_choice_29 ?_
  obtain ⟨r7, σ8, hc, hf⟩ := obd_some hf
  refine zr_callNi (As := []) (rest := []) X J 5 ho_C_X2.1 ho_C_X2.2.1 ho_C_X2.2.2 yy_X2_bracketed mw_methodLinkNest_TinyCReader_277_TinyCExpressions_bracketed_I_TinyC (d := 4 * M + 4) (zR_ok (by omega) (by decide)) hl.1 rfl (Nat.le_of_ble_eq_true rfl) (tX2_bracketed (dk := 4 * M + 3) (by omega) (tX2_expression ())  hc) dX6_choice_32 (fun H locs J => ?_)
  refine lv_istore_n hx hb dX6_choice_35 rfl hl (by decide) rfl (fun ls hl => ?_)
  have hl : lv_has ls 6 [(1, .int r7), (0, .ref (ad 2))] := hl
  refine lv_aload_n hx hb dX6_choice_36 rfl (lv_at hl 1 rfl) ?_
  obtain ⟨q9, hq9, er, hf⟩ := rbd_some hf
  refine gf_X6_51 X J er dX6_choice_37 ?_
  refine lv_bipush (v := (31 : Int32)) hx hb dX6_choice_40 (by decide) ?_
  refine lv_iconst (v := (0 : Int32)) hx hb dX6_choice_42 (by decide) ?_
  obtain ⟨r10, σ11, hc, hf⟩ := obd_some hf
  refine zr_callNv (As := [.int (31 : Int32), .int (0 : Int32)]) (rest := []) X J q9 (ho_C_X0 hq9).1 (ho_C_X0 hq9).2.1 (ho_C_X0 hq9).2.2 yy_X0_addWith mw_methodLinkNest_TinyCReader_196_TinyCCode_addWith_IIV_TinyC (d := 0) (zR_ok (by omega) (by decide)) hl.1 rfl (Nat.le_of_ble_eq_true rfl) (tX0_addWith hq9 hc) dX6_choice_43 (fun H locs J => ?_)
  refine lv_aload_n hx hb dX6_choice_46 rfl (lv_at hl 1 rfl) ?_
  obtain ⟨q12, hq12, er, hf⟩ := rbd_some hf
  refine gf_X6_51 X J er dX6_choice_47 ?_
  refine gf_X6_162 hq12 X J dX6_choice_50 ?_
  refine lv_iconst (v := (1 : Int32)) hx hb dX6_choice_53 (by decide) ?_
  refine lv_isub hx hb dX6_choice_54 ?_
  refine lv_topi (fun x13 eq => ?_)
  have hf := bnd_eq eq hf
  clear eq
  refine lv_istore_n hx hb dX6_choice_55 rfl hl (by decide) rfl (fun ls hl => ?_)
  have hl : lv_has ls 6 [(2, .int x13), (1, .int r7), (0, .ref (ad 2))] := hl
  refine lv_aload_n hx hb dX6_choice_56 rfl (lv_at hl 2 rfl) ?_
  obtain ⟨r14, σ15, hc, hf⟩ := obd_some hf
  refine zr_calli (As := []) (rest := []) X J 2 ho_C_X6.1 ho_C_X6.2.1 ho_C_X6.2.2 yy_X6_statement mw_methodLink_TinyCReader_229_TinyCReader_statement_I (d := dk) (zR_ok (by omega) (by decide)) hl.1 rfl (Nat.le_of_ble_eq_true rfl) (hK _ _ _ hc) dX6_choice_57 (fun H locs J => ?_)
  refine lv_istore_n hx hb dX6_choice_60 rfl hl (by decide) rfl (fun ls hl => ?_)
  have hl : lv_has ls 6 [(3, .int r14), (2, .int x13), (1, .int r7), (0, .ref (ad 2))] := hl
  refine lv_iconst (v := (-1 : Int32)) hx hb dX6_choice_61 (by decide) ?_
  refine lv_topi (fun x16 eq => ?_)
  have hf := bnd_eq eq hf
  clear eq
  refine lv_istore hx hb dX6_choice_62 hl (by decide) rfl (fun ls hl => ?_)
  have hl : lv_has ls 6 [(4, .int x16), (3, .int r14), (2, .int x13), (1, .int r7), (0, .ref (ad 2))] := hl
  refine lv_aload_n hx hb dX6_choice_64 rfl (lv_at hl 4 rfl) ?_
  refine gf_X6_21 X J dX6_choice_65 ?_
  refine gf_X6_78 X J dX6_choice_68 ?_
  refine lv_bipush (v := (44 : Int32)) hx hb dX6_choice_71 (by decide) ?_
  refine lv_icmp_ne hx hb dX6_choice_73 rfl (fun h => ?_) (fun h => ?_)
  · have hf := itn h hf
    exact bX6_choice_138 hdk hK X   J (lv_sub hl [4, 3, 2, 1, 0] rfl) hf
  · have hf := itp h hf
    refine lv_aload_n hx hb dX6_choice_76 rfl (lv_at hl 4 rfl) ?_
    refine gf_X6_9 X J dX6_choice_77 ?_
    obtain ⟨r29, σ30, hc, hf⟩ := obd_some hf
    refine zr_callNv (As := []) (rest := []) X J 3 ho_C_X1.1 ho_C_X1.2.1 ho_C_X1.2.2 yy_X1_enter mw_methodLinkNest_TinyCReader_199_TinyCDesk_enter_V_TinyC (d := 1) (zR_ok (by omega) (by decide)) hl.1 rfl (Nat.le_of_ble_eq_true rfl) (tX1_enter  hc) dX6_choice_80 (fun H locs J => ?_)
    refine lv_aload_n hx hb dX6_choice_83 rfl (lv_at hl 4 rfl) ?_
    refine gf_X6_21 X J dX6_choice_84 ?_
    obtain ⟨r31, σ32, hc, hf⟩ := obd_some hf
    refine zr_callNv (As := []) (rest := []) X J 1 ho_C_X7.1 ho_C_X7.2.1 ho_C_X7.2.2 yy_X7_come mw_methodLinkNest_TinyCReader_81_TinyCScan_come_V_TinyC (d := 1) (zR_ok (by omega) (by decide)) hl.1 rfl (Nat.le_of_ble_eq_true rfl) (tX7_come  hc) dX6_choice_87 (fun H locs J => ?_)
    refine lv_aload_n hx hb dX6_choice_90 rfl (lv_at hl 4 rfl) ?_
    obtain ⟨q33, hq33, er, hf⟩ := rbd_some hf
    refine gf_X6_51 X J er dX6_choice_91 ?_
    refine lv_bipush (v := (30 : Int32)) hx hb dX6_choice_94 (by decide) ?_
    refine lv_iconst (v := (0 : Int32)) hx hb dX6_choice_96 (by decide) ?_
    obtain ⟨r34, σ35, hc, hf⟩ := obd_some hf
    refine zr_callNv (As := [.int (30 : Int32), .int (0 : Int32)]) (rest := []) X J q33 (ho_C_X0 hq33).1 (ho_C_X0 hq33).2.1 (ho_C_X0 hq33).2.2 yy_X0_addWith mw_methodLinkNest_TinyCReader_196_TinyCCode_addWith_IIV_TinyC (d := 0) (zR_ok (by omega) (by decide)) hl.1 rfl (Nat.le_of_ble_eq_true rfl) (tX0_addWith hq33 hc) dX6_choice_97 (fun H locs J => ?_)
    refine lv_aload_n hx hb dX6_choice_100 rfl (lv_at hl 4 rfl) ?_
    obtain ⟨q36, hq36, er, hf⟩ := rbd_some hf
    refine gf_X6_51 X J er dX6_choice_101 ?_
    refine lv_iload_n hx hb dX6_choice_104 rfl (lv_at hl 2 rfl) ?_
    refine lv_aload_n hx hb dX6_choice_105 rfl (lv_at hl 4 rfl) ?_
    obtain ⟨q37, hq37, er, hf⟩ := rbd_some hf
    refine gf_X6_51 X J er dX6_choice_106 ?_
    refine gf_X6_162 hq37 X J dX6_choice_109 ?_
    obtain ⟨r38, σ39, hc, hf⟩ := obd_some hf
    refine zr_callNv (As := [.int x13, .int (zI σ35 q37 1)]) (rest := []) X J q36 (ho_C_X0 hq36).1 (ho_C_X0 hq36).2.1 (ho_C_X0 hq36).2.2 yy_X0_set mw_methodLinkNest_TinyCReader_187_TinyCCode_set_IIV_TinyC (d := 0) (zR_ok (by omega) (by decide)) hl.1 rfl (Nat.le_of_ble_eq_true rfl) (tX0_set hq36 hc) dX6_choice_112 (fun H locs J => ?_)
    refine lv_aload_n hx hb dX6_choice_115 rfl (lv_at hl 4 rfl) ?_
    obtain ⟨q40, hq40, er, hf⟩ := rbd_some hf
    refine gf_X6_51 X J er dX6_choice_116 ?_
    refine gf_X6_162 hq40 X J dX6_choice_119 ?_
    refine lv_iconst (v := (1 : Int32)) hx hb dX6_choice_122 (by decide) ?_
    refine lv_isub hx hb dX6_choice_123 ?_
    refine lv_topi (fun x41 eq => ?_)
    have hf := bnd_eq eq hf
    clear eq
    refine lv_istore_n hx hb dX6_choice_124 rfl hl (by decide) rfl (fun ls hl => ?_)
    have hl : lv_has ls 6 [(2, .int x41), (4, .int x16), (3, .int r14), (1, .int r7), (0, .ref (ad 2))] := hl
    refine lv_aload_n hx hb dX6_choice_125 rfl (lv_at hl 4 rfl) ?_
    obtain ⟨r42, σ43, hc, hf⟩ := obd_some hf
    refine zr_calli (As := []) (rest := []) X J 2 ho_C_X6.1 ho_C_X6.2.1 ho_C_X6.2.2 yy_X6_statement mw_methodLink_TinyCReader_229_TinyCReader_statement_I (d := dk) (zR_ok (by omega) (by decide)) hl.1 rfl (Nat.le_of_ble_eq_true rfl) (hK _ _ _ hc) dX6_choice_126 (fun H locs J => ?_)
    refine lv_istore hx hb dX6_choice_129 hl (by decide) rfl (fun ls hl => ?_)
    have hl : lv_has ls 6 [(4, .int r42), (2, .int x41), (3, .int r14), (1, .int r7), (0, .ref (ad 2))] := hl
    refine lv_aload_n hx hb dX6_choice_131 rfl (lv_at hl 4 rfl) ?_
    refine gf_X6_9 X J dX6_choice_132 ?_
    obtain ⟨r44, σ45, hc, hf⟩ := obd_some hf
    refine zr_callNv (As := []) (rest := []) X J 3 ho_C_X1.1 ho_C_X1.2.1 ho_C_X1.2.2 yy_X1_leave mw_methodLinkNest_TinyCReader_220_TinyCDesk_leave_V_TinyC (d := 0) (zR_ok (by omega) (by decide)) hl.1 rfl (Nat.le_of_ble_eq_true rfl) (tX1_leave  hc) dX6_choice_135 (fun H locs J => ?_)
    exact bX6_choice_138 hdk hK X   J (lv_sub hl [4, 3, 1, 2, 0] rfl) hf
set_option maxHeartbeats 4000000 in
theorem tX6_loop {K : zSt → Option (Int32 × zSt)} {dk : Nat} (hdk : 4 * M + 6 ≤ dk) (hK : ∀  (σ u : zSt) (r : Int32), K  σ = some (r, u) → zMi l yX6_statement cX6_statement 3 (some .int) dk D cy shC ad ts ln [.ref (ad 2)] σ r u)   {σ u : zSt} {r : Int32} (hf : fX6_loop ln N M K  σ = some (r, u)) : zMi l yX6_loop cX6_loop 5 (some .int) (dk + 1) D cy shC ad ts ln [.ref (ad 2)] σ r u := by
  refine zM_of (by decide) (Nat.le_of_ble_eq_true rfl) (fun p e s m args below meth c ls ha X J hl => ?_)
  have hx := X.1
  have hb := X.2.1
  have hl : lv_has ls 5 [(0, .ref (ad 2))] := hl
  generalize s.heap = H at J ⊢
  generalize ([] : List Loc) = locs at J ⊢
  show W p l e (zRm (dk + 1)) s m args below meth c H locs 0 0 (zQi D cy shC ad ts ln below args s (r, u)) (F0 m 0 ls [])
  unfold fX6_loop at hf
  refine lv_aload_n hx hb dX6_loop_0 rfl (lv_at hl 0 rfl) ?_
  refine gf_X6_9 X J dX6_loop_1 ?_
  obtain ⟨r1, σ2, hc, hf⟩ := obd_some hf
  refine zr_callNv (As := []) (rest := []) X J 3 ho_C_X1.1 ho_C_X1.2.1 ho_C_X1.2.2 yy_X1_enter mw_methodLinkNest_TinyCReader_199_TinyCDesk_enter_V_TinyC (d := 1) (zR_ok (by omega) (by decide)) hl.1 rfl (Nat.le_of_ble_eq_true rfl) (tX1_enter  hc) dX6_loop_4 (fun H locs J => ?_)
  refine lv_aload_n hx hb dX6_loop_7 rfl (lv_at hl 0 rfl) ?_
  refine gf_X6_9 X J dX6_loop_8 ?_
  refine lv_aload_n hx hb dX6_loop_11 rfl (lv_at hl 0 rfl) ?_
  refine gf_X6_21 X J dX6_loop_12 ?_
  refine gf_X6_84 X J dX6_loop_15 ?_
  obtain ⟨r3, σ4, hc, hf⟩ := obd_some hf
  refine zr_callNv (As := [.int (zI σ2 1 4)]) (rest := []) X J 3 ho_C_X1.1 ho_C_X1.2.1 ho_C_X1.2.2 yy_X1_takeCells mw_methodLinkNest_TinyCReader_159_TinyCDesk_takeCells_IV_TinyC (d := 1) (zR_ok (by omega) (by decide)) hl.1 rfl (Nat.le_of_ble_eq_true rfl) (tX1_takeCells  hc) dX6_loop_18 (fun H locs J => ?_)
  refine lv_aload_n hx hb dX6_loop_21 rfl (lv_at hl 0 rfl) ?_
  refine gf_X6_21 X J dX6_loop_22 ?_
  obtain ⟨r5, σ6, hc, hf⟩ := obd_some hf
  refine zr_callNv (As := []) (rest := []) X J 1 ho_C_X7.1 ho_C_X7.2.1 ho_C_X7.2.2 yy_X7_come mw_methodLinkNest_TinyCReader_81_TinyCScan_come_V_TinyC (d := 1) (zR_ok (by omega) (by decide)) hl.1 rfl (Nat.le_of_ble_eq_true rfl) (tX7_come  hc) dX6_loop_25 (fun H locs J => ?_)
  refine lv_aload_n hx hb dX6_loop_28 rfl (lv_at hl 0 rfl) ?_
  obtain ⟨q7, hq7, er, hf⟩ := rbd_some hf
  refine gf_X6_51 X J er dX6_loop_29 ?_
  refine gf_X6_162 hq7 X J dX6_loop_32 ?_
  refine lv_topi (fun x8 eq => ?_)
  have hf := bnd_eq eq hf
  clear eq
  refine lv_istore_n hx hb dX6_loop_35 rfl hl (by decide) rfl (fun ls hl => ?_)
  have hl : lv_has ls 5 [(1, .int x8), (0, .ref (ad 2))] := hl
  refine lv_aload_n hx hb dX6_loop_36 rfl (lv_at hl 1 rfl) ?_
  refine gf_X6_32 X J dX6_loop_37 ?_
  obtain ⟨r9, σ10, hc, hf⟩ := obd_some hf
  refine zr_callNi (As := []) (rest := []) X J 5 ho_C_X2.1 ho_C_X2.2.1 ho_C_X2.2.2 yy_X2_bracketed mw_methodLinkNest_TinyCReader_277_TinyCExpressions_bracketed_I_TinyC (d := 4 * M + 4) (zR_ok (by omega) (by decide)) hl.1 rfl (Nat.le_of_ble_eq_true rfl) (tX2_bracketed (dk := 4 * M + 3) (by omega) (tX2_expression ())  hc) dX6_loop_40 (fun H locs J => ?_)
  refine lv_istore_n hx hb dX6_loop_43 rfl hl (by decide) rfl (fun ls hl => ?_)
  have hl : lv_has ls 5 [(2, .int r9), (1, .int x8), (0, .ref (ad 2))] := hl
  refine lv_aload_n hx hb dX6_loop_44 rfl (lv_at hl 2 rfl) ?_
  obtain ⟨q11, hq11, er, hf⟩ := rbd_some hf
  refine gf_X6_51 X J er dX6_loop_45 ?_
  refine lv_bipush (v := (31 : Int32)) hx hb dX6_loop_48 (by decide) ?_
  refine lv_iconst (v := (0 : Int32)) hx hb dX6_loop_50 (by decide) ?_
  obtain ⟨r12, σ13, hc, hf⟩ := obd_some hf
  refine zr_callNv (As := [.int (31 : Int32), .int (0 : Int32)]) (rest := []) X J q11 (ho_C_X0 hq11).1 (ho_C_X0 hq11).2.1 (ho_C_X0 hq11).2.2 yy_X0_addWith mw_methodLinkNest_TinyCReader_196_TinyCCode_addWith_IIV_TinyC (d := 0) (zR_ok (by omega) (by decide)) hl.1 rfl (Nat.le_of_ble_eq_true rfl) (tX0_addWith hq11 hc) dX6_loop_51 (fun H locs J => ?_)
  refine lv_aload_n hx hb dX6_loop_54 rfl (lv_at hl 2 rfl) ?_
  obtain ⟨q14, hq14, er, hf⟩ := rbd_some hf
  refine gf_X6_51 X J er dX6_loop_55 ?_
  refine gf_X6_162 hq14 X J dX6_loop_58 ?_
  refine lv_iconst (v := (1 : Int32)) hx hb dX6_loop_61 (by decide) ?_
  refine lv_isub hx hb dX6_loop_62 ?_
  refine lv_topi (fun x15 eq => ?_)
  have hf := bnd_eq eq hf
  clear eq
  refine lv_istore_n hx hb dX6_loop_63 rfl hl (by decide) rfl (fun ls hl => ?_)
  have hl : lv_has ls 5 [(3, .int x15), (2, .int r9), (1, .int x8), (0, .ref (ad 2))] := hl
  refine lv_aload_n hx hb dX6_loop_64 rfl (lv_at hl 3 rfl) ?_
  obtain ⟨r16, σ17, hc, hf⟩ := obd_some hf
  refine zr_calli (As := []) (rest := []) X J 2 ho_C_X6.1 ho_C_X6.2.1 ho_C_X6.2.2 yy_X6_statement mw_methodLink_TinyCReader_229_TinyCReader_statement_I (d := dk) (zR_ok (by omega) (by decide)) hl.1 rfl (Nat.le_of_ble_eq_true rfl) (hK _ _ _ hc) dX6_loop_65 (fun H locs J => ?_)
  refine lv_istore hx hb dX6_loop_68 hl (by decide) rfl (fun ls hl => ?_)
  have hl : lv_has ls 5 [(4, .int r16), (3, .int x15), (2, .int r9), (1, .int x8), (0, .ref (ad 2))] := hl
  refine lv_aload_n hx hb dX6_loop_70 rfl (lv_at hl 4 rfl) ?_
  obtain ⟨q18, hq18, er, hf⟩ := rbd_some hf
  refine gf_X6_51 X J er dX6_loop_71 ?_
  refine lv_bipush (v := (30 : Int32)) hx hb dX6_loop_74 (by decide) ?_
  refine lv_iload_n hx hb dX6_loop_76 rfl (lv_at hl 3 rfl) ?_
  obtain ⟨r19, σ20, hc, hf⟩ := obd_some hf
  refine zr_callNv (As := [.int (30 : Int32), .int x8]) (rest := []) X J q18 (ho_C_X0 hq18).1 (ho_C_X0 hq18).2.1 (ho_C_X0 hq18).2.2 yy_X0_addWith mw_methodLinkNest_TinyCReader_196_TinyCCode_addWith_IIV_TinyC (d := 0) (zR_ok (by omega) (by decide)) hl.1 rfl (Nat.le_of_ble_eq_true rfl) (tX0_addWith hq18 hc) dX6_loop_77 (fun H locs J => ?_)
  refine lv_aload_n hx hb dX6_loop_80 rfl (lv_at hl 4 rfl) ?_
  obtain ⟨q21, hq21, er, hf⟩ := rbd_some hf
  refine gf_X6_51 X J er dX6_loop_81 ?_
  refine lv_iload_n hx hb dX6_loop_84 rfl (lv_at hl 1 rfl) ?_
  refine lv_aload_n hx hb dX6_loop_85 rfl (lv_at hl 4 rfl) ?_
  obtain ⟨q22, hq22, er, hf⟩ := rbd_some hf
  refine gf_X6_51 X J er dX6_loop_86 ?_
  refine gf_X6_162 hq22 X J dX6_loop_89 ?_
  obtain ⟨r23, σ24, hc, hf⟩ := obd_some hf
  refine zr_callNv (As := [.int x15, .int (zI σ20 q22 1)]) (rest := []) X J q21 (ho_C_X0 hq21).1 (ho_C_X0 hq21).2.1 (ho_C_X0 hq21).2.2 yy_X0_set mw_methodLinkNest_TinyCReader_187_TinyCCode_set_IIV_TinyC (d := 0) (zR_ok (by omega) (by decide)) hl.1 rfl (Nat.le_of_ble_eq_true rfl) (tX0_set hq21 hc) dX6_loop_92 (fun H locs J => ?_)
  refine lv_aload_n hx hb dX6_loop_95 rfl (lv_at hl 4 rfl) ?_
  refine gf_X6_9 X J dX6_loop_96 ?_
  obtain ⟨r25, σ26, hc, hf⟩ := obd_some hf
  refine zr_callNv (As := []) (rest := []) X J 3 ho_C_X1.1 ho_C_X1.2.1 ho_C_X1.2.2 yy_X1_leave mw_methodLinkNest_TinyCReader_220_TinyCDesk_leave_V_TinyC (d := 0) (zR_ok (by omega) (by decide)) hl.1 rfl (Nat.le_of_ble_eq_true rfl) (tX1_leave  hc) dX6_loop_99 (fun H locs J => ?_)
  refine lv_aload_n hx hb dX6_loop_102 rfl (lv_at hl 4 rfl) ?_
  obtain ⟨q27, hq27, er, hf⟩ := rbd_some hf
  refine gf_X6_46 X J er dX6_loop_103 ?_
  refine lv_bipush (v := (11 : Int32)) hx hb dX6_loop_106 (by decide) ?_
  refine lv_iconst (v := (0 : Int32)) hx hb dX6_loop_108 (by decide) ?_
  refine lv_iload_n hx hb dX6_loop_109 rfl (lv_at hl 2 rfl) ?_
  refine lv_iload hx hb dX6_loop_110 (lv_at hl 0 rfl) ?_
  obtain ⟨r28, σ29, hc, hf⟩ := obd_some hf
  refine zr_callNi (As := [.int (11 : Int32), .int (0 : Int32), .int r9, .int r16]) (rest := []) X J q27 (ho_C_X9 hq27).1 (ho_C_X9 hq27).2.1 (ho_C_X9 hq27).2.2 yy_X9_add mw_methodLinkNest_TinyCReader_169_TinyCTree_add_IIIII_TinyC (d := 0) (zR_ok (by omega) (by decide)) hl.1 rfl (Nat.le_of_ble_eq_true rfl) (tX9_add hq27 hc) dX6_loop_112 (fun H locs J => ?_)
  exact zr_iret X J hf dX6_loop_115
set_option maxHeartbeats 4000000 in
theorem tX6_returning   {σ u : zSt} {r : Int32} (hf : fX6_returning ln N M  σ = some (r, u)) : zMi l yX6_returning cX6_returning 2 (some .int) (4 * M + 4) D cy shC ad ts ln [.ref (ad 2)] σ r u := by
  refine zM_of (by decide) (Nat.le_of_ble_eq_true rfl) (fun p e s m args below meth c ls ha X J hl => ?_)
  have hx := X.1
  have hb := X.2.1
  have hl : lv_has ls 2 [(0, .ref (ad 2))] := hl
  generalize s.heap = H at J ⊢
  generalize ([] : List Loc) = locs at J ⊢
  show W p l e (zRm (4 * M + 4)) s m args below meth c H locs 0 0 (zQi D cy shC ad ts ln below args s (r, u)) (F0 m 0 ls [])
  unfold fX6_returning at hf
  refine lv_aload_n hx hb dX6_returning_0 rfl (lv_at hl 0 rfl) ?_
  refine gf_X6_9 X J dX6_returning_1 ?_
  refine lv_aload_n hx hb dX6_returning_4 rfl (lv_at hl 0 rfl) ?_
  refine gf_X6_21 X J dX6_returning_5 ?_
  refine gf_X6_84 X J dX6_returning_8 ?_
  obtain ⟨r1, σ2, hc, hf⟩ := obd_some hf
  refine zr_callNv (As := [.int (zI σ 1 4)]) (rest := []) X J 3 ho_C_X1.1 ho_C_X1.2.1 ho_C_X1.2.2 yy_X1_takeCells mw_methodLinkNest_TinyCReader_159_TinyCDesk_takeCells_IV_TinyC (d := 1) (zR_ok (by omega) (by decide)) hl.1 rfl (Nat.le_of_ble_eq_true rfl) (tX1_takeCells  hc) dX6_returning_11 (fun H locs J => ?_)
  refine lv_aload_n hx hb dX6_returning_14 rfl (lv_at hl 0 rfl) ?_
  refine gf_X6_21 X J dX6_returning_15 ?_
  obtain ⟨r3, σ4, hc, hf⟩ := obd_some hf
  refine zr_callNv (As := []) (rest := []) X J 1 ho_C_X7.1 ho_C_X7.2.1 ho_C_X7.2.2 yy_X7_come mw_methodLinkNest_TinyCReader_81_TinyCScan_come_V_TinyC (d := 1) (zR_ok (by omega) (by decide)) hl.1 rfl (Nat.le_of_ble_eq_true rfl) (tX7_come  hc) dX6_returning_18 (fun H locs J => ?_)
  refine lv_aload_n hx hb dX6_returning_21 rfl (lv_at hl 0 rfl) ?_
  refine gf_X6_32 X J dX6_returning_22 ?_
  refine lv_bipush (v := (56 : Int32)) hx hb dX6_returning_25 (by decide) ?_
  obtain ⟨r5, σ6, hc, hf⟩ := obd_some hf
  refine zr_callNi (As := [.int (56 : Int32)]) (rest := []) X J 5 ho_C_X2.1 ho_C_X2.2.1 ho_C_X2.2.2 yy_X2_expression mw_methodLinkNest_TinyCReader_235_TinyCExpressions_expression_II_TinyC (d := 4 * M + 3) (zR_ok (by omega) (by decide)) hl.1 rfl (Nat.le_of_ble_eq_true rfl) (tX2_expression () _ _ _ _ hc) dX6_returning_27 (fun H locs J => ?_)
  refine lv_istore_n hx hb dX6_returning_30 rfl hl (by decide) rfl (fun ls hl => ?_)
  have hl : lv_has ls 2 [(1, .int r5), (0, .ref (ad 2))] := hl
  refine lv_aload_n hx hb dX6_returning_31 rfl (lv_at hl 1 rfl) ?_
  refine gf_X6_21 X J dX6_returning_32 ?_
  obtain ⟨r7, σ8, hc, hf⟩ := obd_some hf
  refine zr_callNv (As := []) (rest := []) X J 1 ho_C_X7.1 ho_C_X7.2.1 ho_C_X7.2.2 yy_X7_come mw_methodLinkNest_TinyCReader_81_TinyCScan_come_V_TinyC (d := 1) (zR_ok (by omega) (by decide)) hl.1 rfl (Nat.le_of_ble_eq_true rfl) (tX7_come  hc) dX6_returning_35 (fun H locs J => ?_)
  refine lv_aload_n hx hb dX6_returning_38 rfl (lv_at hl 1 rfl) ?_
  obtain ⟨q9, hq9, er, hf⟩ := rbd_some hf
  refine gf_X6_51 X J er dX6_returning_39 ?_
  refine lv_bipush (v := (33 : Int32)) hx hb dX6_returning_42 (by decide) ?_
  refine lv_aload_n hx hb dX6_returning_44 rfl (lv_at hl 1 rfl) ?_
  refine gf_X6_9 X J dX6_returning_45 ?_
  refine gf_X6_202 X J dX6_returning_48 ?_
  obtain ⟨r10, σ11, hc, hf⟩ := obd_some hf
  refine zr_callNv (As := [.int (33 : Int32), .int (zI σ8 3 5)]) (rest := []) X J q9 (ho_C_X0 hq9).1 (ho_C_X0 hq9).2.1 (ho_C_X0 hq9).2.2 yy_X0_addWith mw_methodLinkNest_TinyCReader_196_TinyCCode_addWith_IIV_TinyC (d := 0) (zR_ok (by omega) (by decide)) hl.1 rfl (Nat.le_of_ble_eq_true rfl) (tX0_addWith hq9 hc) dX6_returning_51 (fun H locs J => ?_)
  refine lv_aload_n hx hb dX6_returning_54 rfl (lv_at hl 1 rfl) ?_
  obtain ⟨q12, hq12, er, hf⟩ := rbd_some hf
  refine gf_X6_46 X J er dX6_returning_55 ?_
  refine lv_bipush (v := (12 : Int32)) hx hb dX6_returning_58 (by decide) ?_
  refine lv_iconst (v := (0 : Int32)) hx hb dX6_returning_60 (by decide) ?_
  refine lv_iload_n hx hb dX6_returning_61 rfl (lv_at hl 0 rfl) ?_
  refine lv_iconst (v := (-1 : Int32)) hx hb dX6_returning_62 (by decide) ?_
  obtain ⟨r13, σ14, hc, hf⟩ := obd_some hf
  refine zr_callNi (As := [.int (12 : Int32), .int (0 : Int32), .int r5, .int (-1 : Int32)]) (rest := []) X J q12 (ho_C_X9 hq12).1 (ho_C_X9 hq12).2.1 (ho_C_X9 hq12).2.2 yy_X9_add mw_methodLinkNest_TinyCReader_169_TinyCTree_add_IIIII_TinyC (d := 0) (zR_ok (by omega) (by decide)) hl.1 rfl (Nat.le_of_ble_eq_true rfl) (tX9_add hq12 hc) dX6_returning_63 (fun H locs J => ?_)
  exact zr_iret X J hf dX6_returning_66
set_option maxHeartbeats 4000000 in
theorem tX6_printing   {σ u : zSt} {r : Int32} (hf : fX6_printing ln N M  σ = some (r, u)) : zMi l yX6_printing cX6_printing 2 (some .int) (4 * M + 5) D cy shC ad ts ln [.ref (ad 2)] σ r u := by
  refine zM_of (by decide) (Nat.le_of_ble_eq_true rfl) (fun p e s m args below meth c ls ha X J hl => ?_)
  have hx := X.1
  have hb := X.2.1
  have hl : lv_has ls 2 [(0, .ref (ad 2))] := hl
  generalize s.heap = H at J ⊢
  generalize ([] : List Loc) = locs at J ⊢
  show W p l e (zRm (4 * M + 5)) s m args below meth c H locs 0 0 (zQi D cy shC ad ts ln below args s (r, u)) (F0 m 0 ls [])
  unfold fX6_printing at hf
  refine lv_aload_n hx hb dX6_printing_0 rfl (lv_at hl 0 rfl) ?_
  refine gf_X6_9 X J dX6_printing_1 ?_
  refine lv_aload_n hx hb dX6_printing_4 rfl (lv_at hl 0 rfl) ?_
  refine gf_X6_21 X J dX6_printing_5 ?_
  refine gf_X6_84 X J dX6_printing_8 ?_
  obtain ⟨r1, σ2, hc, hf⟩ := obd_some hf
  refine zr_callNv (As := [.int (zI σ 1 4)]) (rest := []) X J 3 ho_C_X1.1 ho_C_X1.2.1 ho_C_X1.2.2 yy_X1_takeCells mw_methodLinkNest_TinyCReader_159_TinyCDesk_takeCells_IV_TinyC (d := 1) (zR_ok (by omega) (by decide)) hl.1 rfl (Nat.le_of_ble_eq_true rfl) (tX1_takeCells  hc) dX6_printing_11 (fun H locs J => ?_)
  refine lv_aload_n hx hb dX6_printing_14 rfl (lv_at hl 0 rfl) ?_
  refine gf_X6_21 X J dX6_printing_15 ?_
  obtain ⟨r3, σ4, hc, hf⟩ := obd_some hf
  refine zr_callNv (As := []) (rest := []) X J 1 ho_C_X7.1 ho_C_X7.2.1 ho_C_X7.2.2 yy_X7_come mw_methodLinkNest_TinyCReader_81_TinyCScan_come_V_TinyC (d := 1) (zR_ok (by omega) (by decide)) hl.1 rfl (Nat.le_of_ble_eq_true rfl) (tX7_come  hc) dX6_printing_18 (fun H locs J => ?_)
  refine lv_aload_n hx hb dX6_printing_21 rfl (lv_at hl 0 rfl) ?_
  refine gf_X6_32 X J dX6_printing_22 ?_
  obtain ⟨r5, σ6, hc, hf⟩ := obd_some hf
  refine zr_callNi (As := []) (rest := []) X J 5 ho_C_X2.1 ho_C_X2.2.1 ho_C_X2.2.2 yy_X2_bracketed mw_methodLinkNest_TinyCReader_277_TinyCExpressions_bracketed_I_TinyC (d := 4 * M + 4) (zR_ok (by omega) (by decide)) hl.1 rfl (Nat.le_of_ble_eq_true rfl) (tX2_bracketed (dk := 4 * M + 3) (by omega) (tX2_expression ())  hc) dX6_printing_25 (fun H locs J => ?_)
  refine lv_istore_n hx hb dX6_printing_28 rfl hl (by decide) rfl (fun ls hl => ?_)
  have hl : lv_has ls 2 [(1, .int r5), (0, .ref (ad 2))] := hl
  refine lv_aload_n hx hb dX6_printing_29 rfl (lv_at hl 1 rfl) ?_
  refine gf_X6_21 X J dX6_printing_30 ?_
  refine lv_bipush (v := (56 : Int32)) hx hb dX6_printing_33 (by decide) ?_
  obtain ⟨r7, σ8, hc, hf⟩ := obd_some hf
  refine zr_callNv (As := [.int (56 : Int32)]) (rest := []) X J 1 ho_C_X7.1 ho_C_X7.2.1 ho_C_X7.2.2 yy_X7_pass mw_methodLinkNest_TinyCReader_145_TinyCScan_pass_IV_TinyC (d := 2) (zR_ok (by omega) (by decide)) hl.1 rfl (Nat.le_of_ble_eq_true rfl) (tX7_pass  hc) dX6_printing_35 (fun H locs J => ?_)
  refine lv_aload_n hx hb dX6_printing_38 rfl (lv_at hl 1 rfl) ?_
  obtain ⟨q9, hq9, er, hf⟩ := rbd_some hf
  refine gf_X6_51 X J er dX6_printing_39 ?_
  refine lv_bipush (v := (34 : Int32)) hx hb dX6_printing_42 (by decide) ?_
  obtain ⟨r10, σ11, hc, hf⟩ := obd_some hf
  refine zr_callNv (As := [.int (34 : Int32)]) (rest := []) X J q9 (ho_C_X0 hq9).1 (ho_C_X0 hq9).2.1 (ho_C_X0 hq9).2.2 yy_X0_add mw_methodLinkNest_TinyCReader_70_TinyCCode_add_IV_TinyC (d := 0) (zR_ok (by omega) (by decide)) hl.1 rfl (Nat.le_of_ble_eq_true rfl) (tX0_add hq9 hc) dX6_printing_44 (fun H locs J => ?_)
  refine lv_aload_n hx hb dX6_printing_47 rfl (lv_at hl 1 rfl) ?_
  obtain ⟨q12, hq12, er, hf⟩ := rbd_some hf
  refine gf_X6_46 X J er dX6_printing_48 ?_
  refine lv_bipush (v := (13 : Int32)) hx hb dX6_printing_51 (by decide) ?_
  refine lv_iconst (v := (0 : Int32)) hx hb dX6_printing_53 (by decide) ?_
  refine lv_iload_n hx hb dX6_printing_54 rfl (lv_at hl 0 rfl) ?_
  refine lv_iconst (v := (-1 : Int32)) hx hb dX6_printing_55 (by decide) ?_
  obtain ⟨r13, σ14, hc, hf⟩ := obd_some hf
  refine zr_callNi (As := [.int (13 : Int32), .int (0 : Int32), .int r5, .int (-1 : Int32)]) (rest := []) X J q12 (ho_C_X9 hq12).1 (ho_C_X9 hq12).2.1 (ho_C_X9 hq12).2.2 yy_X9_add mw_methodLinkNest_TinyCReader_169_TinyCTree_add_IIIII_TinyC (d := 0) (zR_ok (by omega) (by decide)) hl.1 rfl (Nat.le_of_ble_eq_true rfl) (tX9_add hq12 hc) dX6_printing_56 (fun H locs J => ?_)
  exact zr_iret X J hf dX6_printing_59
set_option maxHeartbeats 4000000 in
theorem tX6_empty   {σ u : zSt} {r : Int32} (hf : fX6_empty ln N M  σ = some (r, u)) : zMi l yX6_empty cX6_empty 1 (some .int) (2) D cy shC ad ts ln [.ref (ad 2)] σ r u := by
  refine zM_of (by decide) (Nat.le_of_ble_eq_true rfl) (fun p e s m args below meth c ls ha X J hl => ?_)
  have hx := X.1
  have hb := X.2.1
  have hl : lv_has ls 1 [(0, .ref (ad 2))] := hl
  generalize s.heap = H at J ⊢
  generalize ([] : List Loc) = locs at J ⊢
  show W p l e (zRm (2)) s m args below meth c H locs 0 0 (zQi D cy shC ad ts ln below args s (r, u)) (F0 m 0 ls [])
  unfold fX6_empty at hf
  refine lv_aload_n hx hb dX6_empty_0 rfl (lv_at hl 0 rfl) ?_
  refine gf_X6_9 X J dX6_empty_1 ?_
  refine lv_aload_n hx hb dX6_empty_4 rfl (lv_at hl 0 rfl) ?_
  refine gf_X6_21 X J dX6_empty_5 ?_
  refine gf_X6_84 X J dX6_empty_8 ?_
  obtain ⟨r1, σ2, hc, hf⟩ := obd_some hf
  refine zr_callNv (As := [.int (zI σ 1 4)]) (rest := []) X J 3 ho_C_X1.1 ho_C_X1.2.1 ho_C_X1.2.2 yy_X1_takeCells mw_methodLinkNest_TinyCReader_159_TinyCDesk_takeCells_IV_TinyC (d := 1) (zR_ok (by omega) (by decide)) hl.1 rfl (Nat.le_of_ble_eq_true rfl) (tX1_takeCells  hc) dX6_empty_11 (fun H locs J => ?_)
  refine lv_aload_n hx hb dX6_empty_14 rfl (lv_at hl 0 rfl) ?_
  refine gf_X6_21 X J dX6_empty_15 ?_
  obtain ⟨r3, σ4, hc, hf⟩ := obd_some hf
  refine zr_callNv (As := []) (rest := []) X J 1 ho_C_X7.1 ho_C_X7.2.1 ho_C_X7.2.2 yy_X7_come mw_methodLinkNest_TinyCReader_81_TinyCScan_come_V_TinyC (d := 1) (zR_ok (by omega) (by decide)) hl.1 rfl (Nat.le_of_ble_eq_true rfl) (tX7_come  hc) dX6_empty_18 (fun H locs J => ?_)
  refine lv_aload_n hx hb dX6_empty_21 rfl (lv_at hl 0 rfl) ?_
  obtain ⟨q5, hq5, er, hf⟩ := rbd_some hf
  refine gf_X6_46 X J er dX6_empty_22 ?_
  refine lv_bipush (v := (18 : Int32)) hx hb dX6_empty_25 (by decide) ?_
  refine lv_iconst (v := (0 : Int32)) hx hb dX6_empty_27 (by decide) ?_
  refine lv_iconst (v := (-1 : Int32)) hx hb dX6_empty_28 (by decide) ?_
  refine lv_iconst (v := (-1 : Int32)) hx hb dX6_empty_29 (by decide) ?_
  obtain ⟨r6, σ7, hc, hf⟩ := obd_some hf
  refine zr_callNi (As := [.int (18 : Int32), .int (0 : Int32), .int (-1 : Int32), .int (-1 : Int32)]) (rest := []) X J q5 (ho_C_X9 hq5).1 (ho_C_X9 hq5).2.1 (ho_C_X9 hq5).2.2 yy_X9_add mw_methodLinkNest_TinyCReader_169_TinyCTree_add_IIIII_TinyC (d := 0) (zR_ok (by omega) (by decide)) hl.1 rfl (Nat.le_of_ble_eq_true rfl) (tX9_add hq5 hc) dX6_empty_30 (fun H locs J => ?_)
  exact zr_iret X J hf dX6_empty_33
set_option maxHeartbeats 4000000 in
theorem bX6_startName_28 {o : Int32 × zSt} (X : zX p s m args meth c D cy shC ad ts cX6_startName 2 (some .int) RX6)  {x1_ : Int32}  {σ : zSt} {H : Heap} {locs : List Loc} {ls : Array Slot} (J : zJ D cy shC ad ln s σ H locs) (hl : lv_has ls 2 [(0, .ref (ad 2)), (1, .int x1_)]) (hf : fX6_startName_b28 ln N M  x1_ σ = some o) : W p l e (zRm (2)) s m args below meth c H locs 0 0 (zQi D cy shC ad ts ln below args s o) (F0 m 28 ls []) := by
  have hx := X.1
  have hb := X.2.1
  unfold fX6_startName_b28 at hf
  refine lv_aload_n hx hb dX6_startName_28 rfl (lv_at hl 0 rfl) ?_
  refine gf_X6_9 X J dX6_startName_29 ?_
  refine lv_aload_n hx hb dX6_startName_32 rfl (lv_at hl 0 rfl) ?_
  refine gf_X6_21 X J dX6_startName_33 ?_
  refine gf_X6_84 X J dX6_startName_36 ?_
  obtain ⟨r3, σ4, hc, hf⟩ := obd_some hf
  refine zr_callNv (As := [.int (zI σ 1 4)]) (rest := []) X J 3 ho_C_X1.1 ho_C_X1.2.1 ho_C_X1.2.2 yy_X1_takeCells mw_methodLinkNest_TinyCReader_159_TinyCDesk_takeCells_IV_TinyC (d := 1) (zR_ok (by omega) (by decide)) hl.1 rfl (Nat.le_of_ble_eq_true rfl) (tX1_takeCells  hc) dX6_startName_39 (fun H locs J => ?_)
  refine lv_aload_n hx hb dX6_startName_42 rfl (lv_at hl 0 rfl) ?_
  refine gf_X6_21 X J dX6_startName_43 ?_
  obtain ⟨r5, σ6, hc, hf⟩ := obd_some hf
  refine zr_callNv (As := []) (rest := []) X J 1 ho_C_X7.1 ho_C_X7.2.1 ho_C_X7.2.2 yy_X7_come mw_methodLinkNest_TinyCReader_81_TinyCScan_come_V_TinyC (d := 1) (zR_ok (by omega) (by decide)) hl.1 rfl (Nat.le_of_ble_eq_true rfl) (tX7_come  hc) dX6_startName_46 (fun H locs J => ?_)
  refine lv_iload_n hx hb dX6_startName_49 rfl (lv_at hl 1 rfl) ?_
  exact zr_iret X J hf dX6_startName_50
set_option maxHeartbeats 4000000 in
theorem tX6_startName   {σ u : zSt} {r : Int32} (hf : fX6_startName ln N M  σ = some (r, u)) : zMi l yX6_startName cX6_startName 2 (some .int) (2) D cy shC ad ts ln [.ref (ad 2)] σ r u := by
  refine zM_of (by decide) (Nat.le_of_ble_eq_true rfl) (fun p e s m args below meth c ls ha X J hl => ?_)
  have hx := X.1
  have hb := X.2.1
  have hl : lv_has ls 2 [(0, .ref (ad 2))] := hl
  generalize s.heap = H at J ⊢
  generalize ([] : List Loc) = locs at J ⊢
  show W p l e (zRm (2)) s m args below meth c H locs 0 0 (zQi D cy shC ad ts ln below args s (r, u)) (F0 m 0 ls [])
  unfold fX6_startName at hf
  refine lv_aload_n hx hb dX6_startName_0 rfl (lv_at hl 0 rfl) ?_
  refine gf_X6_26 X J dX6_startName_1 ?_
  refine lv_aload_n hx hb dX6_startName_4 rfl (lv_at hl 0 rfl) ?_
  refine gf_X6_21 X J dX6_startName_5 ?_
  refine gf_X6_87 X J dX6_startName_8 ?_
  refine lv_iconst (v := (0 : Int32)) hx hb dX6_startName_11 (by decide) ?_
  obtain ⟨r1, σ2, hc, hf⟩ := obd_some hf
  refine zr_callNi (As := [.long (zL σ 1 5), .int (0 : Int32)]) (rest := []) X J 4 ho_C_X4.1 ho_C_X4.2.1 ho_C_X4.2.2 yy_X4_find mw_methodLinkNest_TinyCReader_136_TinyCNames_find_JII_TinyC (d := 0) (zR_ok (by omega) (by decide)) hl.1 rfl (Nat.le_of_ble_eq_true rfl) (tX4_find  hc) dX6_startName_12 (fun H locs J => ?_)
  refine lv_istore_n hx hb dX6_startName_15 rfl hl (by decide) rfl (fun ls hl => ?_)
  have hl : lv_has ls 2 [(1, .int r1), (0, .ref (ad 2))] := hl
  refine lv_iload_n hx hb dX6_startName_16 rfl (lv_at hl 0 rfl) ?_
  refine lv_if_ge hx hb dX6_startName_17 rfl (fun h => ?_) (fun h => ?_)
  · have hf := itp h hf
    exact bX6_startName_28 X   J (lv_sub hl [1, 0] rfl) hf
  · have hf := itn h hf
    refine lv_aload_n hx hb dX6_startName_20 rfl (lv_at hl 1 rfl) ?_
    refine gf_X6_21 X J dX6_startName_21 ?_
    refine lv_iconst (v := (3 : Int32)) hx hb dX6_startName_24 (by decide) ?_
    obtain ⟨r7, σ8, hc, hf⟩ := obd_some hf
    refine zr_callNv (As := [.int (3 : Int32)]) (rest := []) X J 1 ho_C_X7.1 ho_C_X7.2.1 ho_C_X7.2.2 yy_X7_failHere mw_methodLinkNest_TinyCReader_133_TinyCScan_failHere_IV_TinyC (d := 0) (zR_ok (by omega) (by decide)) hl.1 rfl (Nat.le_of_ble_eq_true rfl) (tX7_failHere  hc) dX6_startName_25 (fun H locs J => ?_)
    exact bX6_startName_28 X   J (lv_sub hl [1, 0] rfl) hf
end
