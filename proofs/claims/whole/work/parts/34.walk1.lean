section
variable {p : Program} {l : Launch} {e : Env} {s : State} {m : MethodId} {args : Array Value} {below : List Frame} {meth : Method} {c : Code} {D : va_G} {cy : Nat → ClassId} {ad ts : Nat → Nat} {ln : Nat → Nat} {N M : Nat}
set_option maxHeartbeats 4000000 in
theorem bX0_addWithTwo_48 {o : Unit × zSt} {q_ : Nat} (hq_ : q_ = 13 ∨ q_ = 14) (X : zX p s m args meth c D cy shC ad ts cX0_addWithTwo 4 none RX0)    {σ : zSt} {H : Heap} {locs : List Loc} {ls : Array Slot} (J : zJ D cy shC ad ln s σ H locs) (hl : lv_has ls 4 [(0, .ref (ad q_))]) (hf : fX0_addWithTwo_b48 ln N M q_   σ = some o) : W p l e (zRm (0)) s m args below meth c H locs 0 0 (zQv D cy shC ad ts ln below args s o) (F0 m 48 ls []) := by
  have hx := X.1
  have hb := X.2.1
  unfold fX0_addWithTwo_b48 at hf
  refine lv_aload_n hx hb dX0_addWithTwo_48 rfl (lv_at hl 0 rfl) ?_
  refine lv_dup hx hb dX0_addWithTwo_49 rfl ?_
  refine gf_X0_13 hq_ X J dX0_addWithTwo_50 ?_
  refine lv_iconst (v := (3 : Int32)) hx hb dX0_addWithTwo_53 (by decide) ?_
  refine lv_iadd hx hb dX0_addWithTwo_54 ?_
  refine pf_X0_13 hq_ X J dX0_addWithTwo_55 (fun σ1 H locs eq J => ?_)
  have hf := bnd_eq eq hf
  clear eq
  exact zr_vret X J hf dX0_addWithTwo_58
set_option maxHeartbeats 4000000 in
theorem tX0_addWithTwo {q_ : Nat} (hq_ : q_ = 13 ∨ q_ = 14) {a1_ : Int32} {a2_ : Int32} {a3_ : Int32}  {σ u : zSt} {r : Unit} (hf : fX0_addWithTwo ln N M q_ a1_ a2_ a3_ σ = some (r, u)) : zMv l yX0_addWithTwo cX0_addWithTwo 4 none (0) D cy shC ad ts ln [.ref (ad q_), .int a1_, .int a2_, .int a3_] σ u := by
  refine zM_of (by decide) (Nat.le_of_ble_eq_true rfl) (fun p e s m args below meth c ls ha X J hl => ?_)
  have hx := X.1
  have hb := X.2.1
  have hl : lv_has ls 4 [(0, .ref (ad q_)), (1, .int a1_), (2, .int a2_), (3, .int a3_)] := hl
  generalize s.heap = H at J ⊢
  generalize ([] : List Loc) = locs at J ⊢
  show W p l e (zRm (0)) s m args below meth c H locs 0 0 (zQv D cy shC ad ts ln below args s (r, u)) (F0 m 0 ls [])
  unfold fX0_addWithTwo at hf
  refine lv_aload_n hx hb dX0_addWithTwo_0 rfl (lv_at hl 0 rfl) ?_
  refine gf_X0_13 hq_ X J dX0_addWithTwo_1 ?_
  refine lv_aload_n hx hb dX0_addWithTwo_4 rfl (lv_at hl 0 rfl) ?_
  refine gf_X0_7 hq_ X J dX0_addWithTwo_5 ?_
  refine an_X0_X0f0 hq_ X J dX0_addWithTwo_8 ?_
  refine lv_iconst (v := (2 : Int32)) hx hb dX0_addWithTwo_9 (by decide) ?_
  refine lv_isub hx hb dX0_addWithTwo_10 ?_
  refine lv_icmp_ge hx hb dX0_addWithTwo_11 rfl (fun h => ?_) (fun h => ?_)
  · have hf := itp h hf
    exact bX0_addWithTwo_48 hq_ X   J (lv_sub hl [0] rfl) hf
  · have hf := itn h hf
    refine lv_aload_n hx hb dX0_addWithTwo_14 rfl (lv_at hl 0 rfl) ?_
    refine gf_X0_7 hq_ X J dX0_addWithTwo_15 ?_
    refine lv_aload_n hx hb dX0_addWithTwo_18 rfl (lv_at hl 0 rfl) ?_
    refine gf_X0_13 hq_ X J dX0_addWithTwo_19 ?_
    refine lv_iload_n hx hb dX0_addWithTwo_22 rfl (lv_at hl 1 rfl) ?_
    obtain ⟨hin, hf⟩ := itx hf
    refine as_X0_X0f0 hq_ X J hin dX0_addWithTwo_23 (fun σ2 H locs eq J => ?_)
    have hf := bnd_eq eq hf
    clear eq
    refine lv_aload_n hx hb dX0_addWithTwo_24 rfl (lv_at hl 0 rfl) ?_
    refine gf_X0_7 hq_ X J dX0_addWithTwo_25 ?_
    refine lv_aload_n hx hb dX0_addWithTwo_28 rfl (lv_at hl 0 rfl) ?_
    refine gf_X0_13 hq_ X J dX0_addWithTwo_29 ?_
    refine lv_iconst (v := (1 : Int32)) hx hb dX0_addWithTwo_32 (by decide) ?_
    refine lv_iadd hx hb dX0_addWithTwo_33 ?_
    refine lv_iload_n hx hb dX0_addWithTwo_34 rfl (lv_at hl 2 rfl) ?_
    obtain ⟨hin, hf⟩ := itx hf
    refine as_X0_X0f0 hq_ X J hin dX0_addWithTwo_35 (fun σ3 H locs eq J => ?_)
    have hf := bnd_eq eq hf
    clear eq
    refine lv_aload_n hx hb dX0_addWithTwo_36 rfl (lv_at hl 0 rfl) ?_
    refine gf_X0_7 hq_ X J dX0_addWithTwo_37 ?_
    refine lv_aload_n hx hb dX0_addWithTwo_40 rfl (lv_at hl 0 rfl) ?_
    refine gf_X0_13 hq_ X J dX0_addWithTwo_41 ?_
    refine lv_iconst (v := (2 : Int32)) hx hb dX0_addWithTwo_44 (by decide) ?_
    refine lv_iadd hx hb dX0_addWithTwo_45 ?_
    refine lv_iload_n hx hb dX0_addWithTwo_46 rfl (lv_at hl 3 rfl) ?_
    obtain ⟨hin, hf⟩ := itx hf
    refine as_X0_X0f0 hq_ X J hin dX0_addWithTwo_47 (fun σ4 H locs eq J => ?_)
    have hf := bnd_eq eq hf
    clear eq
    exact bX0_addWithTwo_48 hq_ X   J (lv_sub hl [0] rfl) hf
set_option maxHeartbeats 4000000 in
theorem bX0_add_22 {o : Unit × zSt} {q_ : Nat} (hq_ : q_ = 13 ∨ q_ = 14) (X : zX p s m args meth c D cy shC ad ts cX0_add 2 none RX0)    {σ : zSt} {H : Heap} {locs : List Loc} {ls : Array Slot} (J : zJ D cy shC ad ln s σ H locs) (hl : lv_has ls 2 [(0, .ref (ad q_))]) (hf : fX0_add_b22 ln N M q_   σ = some o) : W p l e (zRm (0)) s m args below meth c H locs 0 0 (zQv D cy shC ad ts ln below args s o) (F0 m 22 ls []) := by
  have hx := X.1
  have hb := X.2.1
  unfold fX0_add_b22 at hf
  refine lv_aload_n hx hb dX0_add_22 rfl (lv_at hl 0 rfl) ?_
  refine lv_dup hx hb dX0_add_23 rfl ?_
  refine gf_X0_13 hq_ X J dX0_add_24 ?_
  refine lv_iconst (v := (1 : Int32)) hx hb dX0_add_27 (by decide) ?_
  refine lv_iadd hx hb dX0_add_28 ?_
  refine pf_X0_13 hq_ X J dX0_add_29 (fun σ1 H locs eq J => ?_)
  have hf := bnd_eq eq hf
  clear eq
  exact zr_vret X J hf dX0_add_32
set_option maxHeartbeats 4000000 in
theorem tX0_add {q_ : Nat} (hq_ : q_ = 13 ∨ q_ = 14) {a1_ : Int32}  {σ u : zSt} {r : Unit} (hf : fX0_add ln N M q_ a1_ σ = some (r, u)) : zMv l yX0_add cX0_add 2 none (0) D cy shC ad ts ln [.ref (ad q_), .int a1_] σ u := by
  refine zM_of (by decide) (Nat.le_of_ble_eq_true rfl) (fun p e s m args below meth c ls ha X J hl => ?_)
  have hx := X.1
  have hb := X.2.1
  have hl : lv_has ls 2 [(0, .ref (ad q_)), (1, .int a1_)] := hl
  generalize s.heap = H at J ⊢
  generalize ([] : List Loc) = locs at J ⊢
  show W p l e (zRm (0)) s m args below meth c H locs 0 0 (zQv D cy shC ad ts ln below args s (r, u)) (F0 m 0 ls [])
  unfold fX0_add at hf
  refine lv_aload_n hx hb dX0_add_0 rfl (lv_at hl 0 rfl) ?_
  refine gf_X0_13 hq_ X J dX0_add_1 ?_
  refine lv_aload_n hx hb dX0_add_4 rfl (lv_at hl 0 rfl) ?_
  refine gf_X0_7 hq_ X J dX0_add_5 ?_
  refine an_X0_X0f0 hq_ X J dX0_add_8 ?_
  refine lv_icmp_ge hx hb dX0_add_9 rfl (fun h => ?_) (fun h => ?_)
  · have hf := itp h hf
    exact bX0_add_22 hq_ X   J (lv_sub hl [0] rfl) hf
  · have hf := itn h hf
    refine lv_aload_n hx hb dX0_add_12 rfl (lv_at hl 0 rfl) ?_
    refine gf_X0_7 hq_ X J dX0_add_13 ?_
    refine lv_aload_n hx hb dX0_add_16 rfl (lv_at hl 0 rfl) ?_
    refine gf_X0_13 hq_ X J dX0_add_17 ?_
    refine lv_iload_n hx hb dX0_add_20 rfl (lv_at hl 1 rfl) ?_
    obtain ⟨hin, hf⟩ := itx hf
    refine as_X0_X0f0 hq_ X J hin dX0_add_21 (fun σ2 H locs eq J => ?_)
    have hf := bnd_eq eq hf
    clear eq
    exact bX0_add_22 hq_ X   J (lv_sub hl [0] rfl) hf
set_option maxHeartbeats 4000000 in
theorem bX7_failHere_20 {o : Unit × zSt} (X : zX p s m args meth c D cy shC ad ts cX7_failHere 2 none RX7)    {σ : zSt} {H : Heap} {locs : List Loc} {ls : Array Slot} (J : zJ D cy shC ad ln s σ H locs) (hl : lv_has ls 2 [(0, .ref (ad 1))]) (hf : fX7_failHere_b20 ln N M   σ = some o) : W p l e (zRm (0)) s m args below meth c H locs 0 0 (zQv D cy shC ad ts ln below args s o) (F0 m 20 ls []) := by
  have hx := X.1
  have hb := X.2.1
  unfold fX7_failHere_b20 at hf
  refine lv_aload_n hx hb dX7_failHere_20 rfl (lv_at hl 0 rfl) ?_
  refine lv_iconst (v := (-1 : Int32)) hx hb dX7_failHere_21 (by decide) ?_
  refine pf_X7_28 X J dX7_failHere_22 (fun σ1 H locs eq J => ?_)
  have hf := bnd_eq eq hf
  clear eq
  exact zr_vret X J hf dX7_failHere_25
set_option maxHeartbeats 4000000 in
theorem tX7_failHere {a1_ : Int32}  {σ u : zSt} {r : Unit} (hf : fX7_failHere ln N M a1_ σ = some (r, u)) : zMv l yX7_failHere cX7_failHere 2 none (0) D cy shC ad ts ln [.ref (ad 1), .int a1_] σ u := by
  refine zM_of (by decide) (Nat.le_of_ble_eq_true rfl) (fun p e s m args below meth c ls ha X J hl => ?_)
  have hx := X.1
  have hb := X.2.1
  have hl : lv_has ls 2 [(0, .ref (ad 1)), (1, .int a1_)] := hl
  generalize s.heap = H at J ⊢
  generalize ([] : List Loc) = locs at J ⊢
  show W p l e (zRm (0)) s m args below meth c H locs 0 0 (zQv D cy shC ad ts ln below args s (r, u)) (F0 m 0 ls [])
  unfold fX7_failHere at hf
  refine lv_aload_n hx hb dX7_failHere_0 rfl (lv_at hl 0 rfl) ?_
  refine gf_X7_19 X J dX7_failHere_1 ?_
  refine lv_if_ne hx hb dX7_failHere_4 rfl (fun h => ?_) (fun h => ?_)
  · have hf := itn h hf
    exact bX7_failHere_20 X   J (lv_sub hl [0] rfl) hf
  · have hf := itp h hf
    refine lv_aload_n hx hb dX7_failHere_7 rfl (lv_at hl 0 rfl) ?_
    refine lv_iload_n hx hb dX7_failHere_8 rfl (lv_at hl 1 rfl) ?_
    refine lv_bipush (v := (16 : Int32)) hx hb dX7_failHere_9 (by decide) ?_
    refine lv_aload_n hx hb dX7_failHere_11 rfl (lv_at hl 0 rfl) ?_
    refine gf_X7_31 X J dX7_failHere_12 ?_
    refine lv_imul hx hb dX7_failHere_15 ?_
    refine lv_iadd hx hb dX7_failHere_16 ?_
    refine pf_X7_19 X J dX7_failHere_17 (fun σ2 H locs eq J => ?_)
    have hf := bnd_eq eq hf
    clear eq
    exact bX7_failHere_20 X   J (lv_sub hl [0] rfl) hf
set_option maxHeartbeats 4000000 in
theorem bX4_find_8 {o : Int32 × zSt} (X : zX p s m args meth c D cy shC ad ts cX4_find 5 (some .int) RX4)  : ∀ (n : Nat) (x1_ : Int64) (x3_ : Int32) (x4_ : Int32) (σ : zSt) (H : Heap) (locs : List Loc) (ls : Array Slot), zJ D cy shC ad ln s σ H locs → lv_has ls 5 [(0, .ref (ad 4)), (1, .long x1_), (3, .int x3_), (4, .int x4_)] → fX4_find_b8 ln N M  n x1_ x3_ x4_ σ = some o → W p l e (zRm (0)) s m args below meth c H locs 0 0 (zQi D cy shC ad ts ln below args s o) (F0 m 8 ls []) := by
  have hx := X.1
  have hb := X.2.1
  intro n
  induction n with
  | zero =>
    intro x1_ x3_ x4_ σ H locs ls J hl hf
    rw [fX4_find_b8] at hf
    cases hf
  | succ n ih =>
    intro x1_ x3_ x4_ σ H locs ls J hl hf
    rw [fX4_find_b8] at hf
    refine lv_iload hx hb dX4_find_8 (lv_at hl 3 rfl) ?_
    refine lv_iload_n hx hb dX4_find_10 rfl (lv_at hl 2 rfl) ?_
    refine lv_icmp_lt hx hb dX4_find_11 rfl (fun h => ?_) (fun h => ?_)
    · have hf := itp h hf
      refine lv_iconst (v := (-1 : Int32)) hx hb dX4_find_40 (by decide) ?_
      exact zr_iret X J hf dX4_find_41
    · have hf := itn h hf
      refine lv_iload hx hb dX4_find_14 (lv_at hl 3 rfl) ?_
      refine lv_if_lt hx hb dX4_find_16 rfl (fun h => ?_) (fun h => ?_)
      · have hf := itp h hf
        refine lv_iconst (v := (-1 : Int32)) hx hb dX4_find_40 (by decide) ?_
        exact zr_iret X J hf dX4_find_41
      · have hf := itn h hf
        refine lv_aload_n hx hb dX4_find_19 rfl (lv_at hl 0 rfl) ?_
        refine gf_X4_7 X J dX4_find_20 ?_
        refine lv_iload hx hb dX4_find_23 (lv_at hl 3 rfl) ?_
        obtain ⟨hin, hf⟩ := itx hf
        refine al_X4_X4f0 X J hin dX4_find_25 ?_
        refine lv_lload_n hx hb dX4_find_26 rfl (lv_at hl 1 rfl) ?_
        refine W.lcmp hx hb dX4_find_27 ?_
        refine lv_if_ne hx hb dX4_find_28 rfl (fun h => ?_) (fun h => ?_)
        · have hf := itn h hf
          obtain ⟨x2, eq⟩ : ∃ z, z = x4_ + (-1 : Int32) := ⟨_, rfl⟩
          have hf := bnd_eq eq hf
          refine lv_iinc hx hb dX4_find_34 hl (k := 3) rfl (v := x2) (by rw [eq]; rfl) (by decide) rfl (fun ls hl => ?_)
          clear eq
          have hl : lv_has ls 5 [(4, .int x2), (0, .ref (ad 4)), (1, .long x1_), (3, .int x3_)] := hl
          refine lv_goto hx hb dX4_find_37 rfl ?_
          exact ih _ _ _ _ _ _ _ J (lv_sub hl [1, 2, 3, 0] rfl) hf
        · have hf := itp h hf
          refine lv_iload hx hb dX4_find_31 (lv_at hl 3 rfl) ?_
          exact zr_iret X J hf dX4_find_33
set_option maxHeartbeats 4000000 in
theorem tX4_find {a1_ : Int64} {a3_ : Int32}  {σ u : zSt} {r : Int32} (hf : fX4_find ln N M a1_ a3_ σ = some (r, u)) : zMi l yX4_find cX4_find 5 (some .int) (0) D cy shC ad ts ln [.ref (ad 4), .long a1_, .int a3_] σ r u := by
  refine zM_of (by decide) (Nat.le_of_ble_eq_true rfl) (fun p e s m args below meth c ls ha X J hl => ?_)
  have hx := X.1
  have hb := X.2.1
  have hl : lv_has ls 5 [(0, .ref (ad 4)), (1, .long a1_), (3, .int a3_)] := hl
  generalize s.heap = H at J ⊢
  generalize ([] : List Loc) = locs at J ⊢
  show W p l e (zRm (0)) s m args below meth c H locs 0 0 (zQi D cy shC ad ts ln below args s (r, u)) (F0 m 0 ls [])
  unfold fX4_find at hf
  refine lv_aload_n hx hb dX4_find_0 rfl (lv_at hl 0 rfl) ?_
  refine gf_X4_26 X J dX4_find_1 ?_
  refine lv_iconst (v := (1 : Int32)) hx hb dX4_find_4 (by decide) ?_
  refine lv_isub hx hb dX4_find_5 ?_
  refine lv_topi (fun x1 eq => ?_)
  have hf := bnd_eq eq hf
  clear eq
  refine lv_istore hx hb dX4_find_6 hl (by decide) rfl (fun ls hl => ?_)
  have hl : lv_has ls 5 [(4, .int x1), (0, .ref (ad 4)), (1, .long a1_), (3, .int a3_)] := hl
  exact bX4_find_8 X  N _ _ _ _ _ _ _ J (lv_sub hl [1, 2, 3, 0] rfl) hf
set_option maxHeartbeats 4000000 in
theorem bX6_toldName_49 {o : Unit × zSt} (X : zX p s m args meth c D cy shC ad ts cX6_toldName 2 none RX6)    {σ : zSt} {H : Heap} {locs : List Loc} {ls : Array Slot} (J : zJ D cy shC ad ln s σ H locs) (hl : lv_has ls 2 [(0, .ref (ad 2))]) (hf : fX6_toldName_b49 ln N M   σ = some o) : W p l e (zRm (2)) s m args below meth c H locs 0 0 (zQv D cy shC ad ts ln below args s o) (F0 m 49 ls []) := by
  have hx := X.1
  have hb := X.2.1
  unfold fX6_toldName_b49 at hf
  refine lv_aload_n hx hb dX6_toldName_49 rfl (lv_at hl 0 rfl) ?_
  refine gf_X6_21 X J dX6_toldName_50 ?_
  obtain ⟨r3, σ4, hc, hf⟩ := obd_some hf
  refine zr_callNv (As := []) (rest := []) X J 1 ho_C_X7.1 ho_C_X7.2.1 ho_C_X7.2.2 yy_X7_come mw_methodLinkNest_TinyCReader_81_TinyCScan_come_V_TinyC (d := 1) (zR_ok (by omega) (by decide)) hl.1 rfl (Nat.le_of_ble_eq_true rfl) (tX7_come  hc) dX6_toldName_53 (fun H locs J => ?_)
  exact zr_vret X J hf dX6_toldName_56
set_option maxHeartbeats 4000000 in
theorem tX6_toldName {a1_ : Int32}  {σ u : zSt} {r : Unit} (hf : fX6_toldName ln N M a1_ σ = some (r, u)) : zMv l yX6_toldName cX6_toldName 2 none (2) D cy shC ad ts ln [.ref (ad 2), .int a1_] σ u := by
  refine zM_of (by decide) (Nat.le_of_ble_eq_true rfl) (fun p e s m args below meth c ls ha X J hl => ?_)
  have hx := X.1
  have hb := X.2.1
  have hl : lv_has ls 2 [(0, .ref (ad 2)), (1, .int a1_)] := hl
  generalize s.heap = H at J ⊢
  generalize ([] : List Loc) = locs at J ⊢
  show W p l e (zRm (2)) s m args below meth c H locs 0 0 (zQv D cy shC ad ts ln below args s (r, u)) (F0 m 0 ls [])
  unfold fX6_toldName at hf
  refine lv_aload_n hx hb dX6_toldName_0 rfl (lv_at hl 0 rfl) ?_
  refine gf_X6_21 X J dX6_toldName_1 ?_
  refine gf_X6_78 X J dX6_toldName_4 ?_
  refine lv_bipush (v := (40 : Int32)) hx hb dX6_toldName_7 (by decide) ?_
  refine lv_icmp_eq hx hb dX6_toldName_9 rfl (fun h => ?_) (fun h => ?_)
  · have hf := itp h hf
    refine lv_aload_n hx hb dX6_toldName_23 rfl (lv_at hl 0 rfl) ?_
    refine gf_X6_26 X J dX6_toldName_24 ?_
    refine lv_aload_n hx hb dX6_toldName_27 rfl (lv_at hl 0 rfl) ?_
    refine gf_X6_21 X J dX6_toldName_28 ?_
    refine gf_X6_87 X J dX6_toldName_31 ?_
    refine lv_iload_n hx hb dX6_toldName_34 rfl (lv_at hl 1 rfl) ?_
    obtain ⟨r1, σ2, hc, hf⟩ := obd_some hf
    refine zr_callNi (As := [.long (zL σ 1 5), .int a1_]) (rest := []) X J 4 ho_C_X4.1 ho_C_X4.2.1 ho_C_X4.2.2 yy_X4_find mw_methodLinkNest_TinyCReader_136_TinyCNames_find_JII_TinyC (d := 0) (zR_ok (by omega) (by decide)) hl.1 rfl (Nat.le_of_ble_eq_true rfl) (tX4_find  hc) dX6_toldName_35 (fun H locs J => ?_)
    refine lv_if_lt hx hb dX6_toldName_38 rfl (fun h => ?_) (fun h => ?_)
    · have hf := itp h hf
      exact bX6_toldName_49 X   J (lv_sub hl [0] rfl) hf
    · have hf := itn h hf
      refine lv_aload_n hx hb dX6_toldName_41 rfl (lv_at hl 0 rfl) ?_
      refine gf_X6_21 X J dX6_toldName_42 ?_
      refine lv_iconst (v := (4 : Int32)) hx hb dX6_toldName_45 (by decide) ?_
      obtain ⟨r5, σ6, hc, hf⟩ := obd_some hf
      refine zr_callNv (As := [.int (4 : Int32)]) (rest := []) X J 1 ho_C_X7.1 ho_C_X7.2.1 ho_C_X7.2.2 yy_X7_failHere mw_methodLinkNest_TinyCReader_133_TinyCScan_failHere_IV_TinyC (d := 0) (zR_ok (by omega) (by decide)) hl.1 rfl (Nat.le_of_ble_eq_true rfl) (tX7_failHere  hc) dX6_toldName_46 (fun H locs J => ?_)
      exact bX6_toldName_49 X   J (lv_sub hl [0] rfl) hf
  · have hf := itn h hf
    refine lv_aload_n hx hb dX6_toldName_12 rfl (lv_at hl 0 rfl) ?_
    refine gf_X6_21 X J dX6_toldName_13 ?_
    refine lv_iconst (v := (2 : Int32)) hx hb dX6_toldName_16 (by decide) ?_
    obtain ⟨r7, σ8, hc, hf⟩ := obd_some hf
    refine zr_callNv (As := [.int (2 : Int32)]) (rest := []) X J 1 ho_C_X7.1 ho_C_X7.2.1 ho_C_X7.2.2 yy_X7_failHere mw_methodLinkNest_TinyCReader_133_TinyCScan_failHere_IV_TinyC (d := 0) (zR_ok (by omega) (by decide)) hl.1 rfl (Nat.le_of_ble_eq_true rfl) (tX7_failHere  hc) dX6_toldName_17 (fun H locs J => ?_)
    refine lv_goto hx hb dX6_toldName_20 rfl ?_
    exact bX6_toldName_49 X   J (lv_sub hl [0] rfl) hf
set_option maxHeartbeats 4000000 in
theorem tX1_takeCells {a1_ : Int32}  {σ u : zSt} {r : Unit} (hf : fX1_takeCells ln N M a1_ σ = some (r, u)) : zMv l yX1_takeCells cX1_takeCells 2 none (1) D cy shC ad ts ln [.ref (ad 3), .int a1_] σ u := by
  refine zM_of (by decide) (Nat.le_of_ble_eq_true rfl) (fun p e s m args below meth c ls ha X J hl => ?_)
  have hx := X.1
  have hb := X.2.1
  have hl : lv_has ls 2 [(0, .ref (ad 3)), (1, .int a1_)] := hl
  generalize s.heap = H at J ⊢
  generalize ([] : List Loc) = locs at J ⊢
  show W p l e (zRm (1)) s m args below meth c H locs 0 0 (zQv D cy shC ad ts ln below args s (r, u)) (F0 m 0 ls [])
  unfold fX1_takeCells at hf
  refine lv_aload_n hx hb dX1_takeCells_0 rfl (lv_at hl 0 rfl) ?_
  refine gf_X1_29 X J dX1_takeCells_1 ?_
  refine lv_iconst (v := (4 : Int32)) hx hb dX1_takeCells_4 (by decide) ?_
  refine lv_icmp_ge hx hb dX1_takeCells_5 rfl (fun h => ?_) (fun h => ?_)
  · have hf := itp h hf
    refine lv_aload_n hx hb dX1_takeCells_21 rfl (lv_at hl 0 rfl) ?_
    refine lv_dup hx hb dX1_takeCells_22 rfl ?_
    refine gf_X1_29 X J dX1_takeCells_23 ?_
    refine lv_iconst (v := (4 : Int32)) hx hb dX1_takeCells_26 (by decide) ?_
    refine lv_isub hx hb dX1_takeCells_27 ?_
    refine pf_X1_29 X J dX1_takeCells_28 (fun σ1 H locs eq J => ?_)
    have hf := bnd_eq eq hf
    clear eq
    exact zr_vret X J hf dX1_takeCells_31
  · have hf := itn h hf
    refine lv_aload_n hx hb dX1_takeCells_8 rfl (lv_at hl 0 rfl) ?_
    refine gf_X1_9 X J dX1_takeCells_9 ?_
    refine lv_bipush (v := (9 : Int32)) hx hb dX1_takeCells_12 (by decide) ?_
    refine lv_iload_n hx hb dX1_takeCells_14 rfl (lv_at hl 1 rfl) ?_
    obtain ⟨r2, σ3, hc, hf⟩ := obd_some hf
    refine zr_callNv (As := [.int (9 : Int32), .int a1_]) (rest := []) X J 1 ho_C_X7.1 ho_C_X7.2.1 ho_C_X7.2.2 yy_X7_fail mw_methodLinkNest_TinyCDesk_38_TinyCScan_fail_IIV_TinyC (d := 0) (zR_ok (by omega) (by decide)) hl.1 rfl (Nat.le_of_ble_eq_true rfl) (tX7_fail  hc) dX1_takeCells_15 (fun H locs J => ?_)
    refine lv_goto hx hb dX1_takeCells_18 rfl ?_
    exact zr_vret X J hf dX1_takeCells_31
set_option maxHeartbeats 4000000 in
theorem tX9_add {q_ : Nat} (hq_ : q_ = 11 ∨ q_ = 12) {a1_ : Int32} {a2_ : Int32} {a3_ : Int32} {a4_ : Int32}  {σ u : zSt} {r : Int32} (hf : fX9_add ln N M q_ a1_ a2_ a3_ a4_ σ = some (r, u)) : zMi l yX9_add cX9_add 5 (some .int) (0) D cy shC ad ts ln [.ref (ad q_), .int a1_, .int a2_, .int a3_, .int a4_] σ r u := by
  refine zM_of (by decide) (Nat.le_of_ble_eq_true rfl) (fun p e s m args below meth c ls ha X J hl => ?_)
  have hx := X.1
  have hb := X.2.1
  have hl : lv_has ls 5 [(0, .ref (ad q_)), (1, .int a1_), (2, .int a2_), (3, .int a3_), (4, .int a4_)] := hl
  generalize s.heap = H at J ⊢
  generalize ([] : List Loc) = locs at J ⊢
  show W p l e (zRm (0)) s m args below meth c H locs 0 0 (zQi D cy shC ad ts ln below args s (r, u)) (F0 m 0 ls [])
  unfold fX9_add at hf
  refine lv_aload_n hx hb dX9_add_0 rfl (lv_at hl 0 rfl) ?_
  refine gf_X9_28 hq_ X J dX9_add_1 ?_
  refine lv_aload_n hx hb dX9_add_4 rfl (lv_at hl 0 rfl) ?_
  refine gf_X9_7 hq_ X J dX9_add_5 ?_
  refine an_X9_X9f0 hq_ X J dX9_add_8 ?_
  refine lv_icmp_lt hx hb dX9_add_9 rfl (fun h => ?_) (fun h => ?_)
  · have hf := itp h hf
    refine lv_aload_n hx hb dX9_add_14 rfl (lv_at hl 0 rfl) ?_
    refine gf_X9_7 hq_ X J dX9_add_15 ?_
    refine lv_aload_n hx hb dX9_add_18 rfl (lv_at hl 0 rfl) ?_
    refine gf_X9_28 hq_ X J dX9_add_19 ?_
    refine lv_iload_n hx hb dX9_add_22 rfl (lv_at hl 1 rfl) ?_
    obtain ⟨hin, hf⟩ := itx hf
    refine as_X9_X9f0 hq_ X J hin dX9_add_23 (fun σ1 H locs eq J => ?_)
    have hf := bnd_eq eq hf
    clear eq
    refine lv_aload_n hx hb dX9_add_24 rfl (lv_at hl 0 rfl) ?_
    refine gf_X9_13 hq_ X J dX9_add_25 ?_
    refine lv_aload_n hx hb dX9_add_28 rfl (lv_at hl 0 rfl) ?_
    refine gf_X9_28 hq_ X J dX9_add_29 ?_
    refine lv_iload_n hx hb dX9_add_32 rfl (lv_at hl 2 rfl) ?_
    obtain ⟨hin, hf⟩ := itx hf
    refine as_X9_X9f1 hq_ X J hin dX9_add_33 (fun σ2 H locs eq J => ?_)
    have hf := bnd_eq eq hf
    clear eq
    refine lv_aload_n hx hb dX9_add_34 rfl (lv_at hl 0 rfl) ?_
    refine gf_X9_16 hq_ X J dX9_add_35 ?_
    refine lv_aload_n hx hb dX9_add_38 rfl (lv_at hl 0 rfl) ?_
    refine gf_X9_28 hq_ X J dX9_add_39 ?_
    refine lv_iload_n hx hb dX9_add_42 rfl (lv_at hl 3 rfl) ?_
    obtain ⟨hin, hf⟩ := itx hf
    refine as_X9_X9f2 hq_ X J hin dX9_add_43 (fun σ3 H locs eq J => ?_)
    have hf := bnd_eq eq hf
    clear eq
    refine lv_aload_n hx hb dX9_add_44 rfl (lv_at hl 0 rfl) ?_
    refine gf_X9_19 hq_ X J dX9_add_45 ?_
    refine lv_aload_n hx hb dX9_add_48 rfl (lv_at hl 0 rfl) ?_
    refine gf_X9_28 hq_ X J dX9_add_49 ?_
    refine lv_iload hx hb dX9_add_52 (lv_at hl 4 rfl) ?_
    obtain ⟨hin, hf⟩ := itx hf
    refine as_X9_X9f3 hq_ X J hin dX9_add_54 (fun σ4 H locs eq J => ?_)
    have hf := bnd_eq eq hf
    clear eq
    refine lv_aload_n hx hb dX9_add_55 rfl (lv_at hl 0 rfl) ?_
    refine gf_X9_22 hq_ X J dX9_add_56 ?_
    refine lv_aload_n hx hb dX9_add_59 rfl (lv_at hl 0 rfl) ?_
    refine gf_X9_28 hq_ X J dX9_add_60 ?_
    refine lv_iconst (v := (-1 : Int32)) hx hb dX9_add_63 (by decide) ?_
    obtain ⟨hin, hf⟩ := itx hf
    refine as_X9_X9f4 hq_ X J hin dX9_add_64 (fun σ5 H locs eq J => ?_)
    have hf := bnd_eq eq hf
    clear eq
    refine lv_aload_n hx hb dX9_add_65 rfl (lv_at hl 0 rfl) ?_
    refine gf_X9_25 hq_ X J dX9_add_66 ?_
    refine lv_aload_n hx hb dX9_add_69 rfl (lv_at hl 0 rfl) ?_
    refine gf_X9_28 hq_ X J dX9_add_70 ?_
    refine lv_iconst (v := (-1 : Int32)) hx hb dX9_add_73 (by decide) ?_
    obtain ⟨hin, hf⟩ := itx hf
    refine as_X9_X9f5 hq_ X J hin dX9_add_74 (fun σ6 H locs eq J => ?_)
    have hf := bnd_eq eq hf
    clear eq
    refine lv_aload_n hx hb dX9_add_75 rfl (lv_at hl 0 rfl) ?_
    refine lv_dup hx hb dX9_add_76 rfl ?_
    refine gf_X9_28 hq_ X J dX9_add_77 ?_
    refine lv_iconst (v := (1 : Int32)) hx hb dX9_add_80 (by decide) ?_
    refine lv_iadd hx hb dX9_add_81 ?_
    refine pf_X9_28 hq_ X J dX9_add_82 (fun σ7 H locs eq J => ?_)
    have hf := bnd_eq eq hf
    clear eq
    refine lv_aload_n hx hb dX9_add_85 rfl (lv_at hl 0 rfl) ?_
    refine gf_X9_28 hq_ X J dX9_add_86 ?_
    refine lv_iconst (v := (1 : Int32)) hx hb dX9_add_89 (by decide) ?_
    refine lv_isub hx hb dX9_add_90 ?_
    exact zr_iret X J hf dX9_add_91
  · have hf := itn h hf
    refine lv_iconst (v := (-1 : Int32)) hx hb dX9_add_12 (by decide) ?_
    exact zr_iret X J hf dX9_add_13
set_option maxHeartbeats 4000000 in
theorem tX4_add {a1_ : Int64} {a3_ : Int32} {a4_ : Int32} {a5_ : Int32}  {σ u : zSt} {r : Unit} (hf : fX4_add ln N M a1_ a3_ a4_ a5_ σ = some (r, u)) : zMv l yX4_add cX4_add 6 none (0) D cy shC ad ts ln [.ref (ad 4), .long a1_, .int a3_, .int a4_, .int a5_] σ u := by
  refine zM_of (by decide) (Nat.le_of_ble_eq_true rfl) (fun p e s m args below meth c ls ha X J hl => ?_)
  have hx := X.1
  have hb := X.2.1
  have hl : lv_has ls 6 [(0, .ref (ad 4)), (1, .long a1_), (3, .int a3_), (4, .int a4_), (5, .int a5_)] := hl
  generalize s.heap = H at J ⊢
  generalize ([] : List Loc) = locs at J ⊢
  show W p l e (zRm (0)) s m args below meth c H locs 0 0 (zQv D cy shC ad ts ln below args s (r, u)) (F0 m 0 ls [])
  unfold fX4_add at hf
  refine lv_aload_n hx hb dX4_add_0 rfl (lv_at hl 0 rfl) ?_
  refine gf_X4_26 X J dX4_add_1 ?_
  refine lv_aload_n hx hb dX4_add_4 rfl (lv_at hl 0 rfl) ?_
  refine gf_X4_7 X J dX4_add_5 ?_
  refine an_X4_X4f0 X J dX4_add_8 ?_
  refine lv_icmp_ge hx hb dX4_add_9 rfl (fun h => ?_) (fun h => ?_)
  · have hf := itp h hf
    exact zr_vret X J hf dX4_add_74
  · have hf := itn h hf
    refine lv_aload_n hx hb dX4_add_12 rfl (lv_at hl 0 rfl) ?_
    refine gf_X4_7 X J dX4_add_13 ?_
    refine lv_aload_n hx hb dX4_add_16 rfl (lv_at hl 0 rfl) ?_
    refine gf_X4_26 X J dX4_add_17 ?_
    refine lv_lload_n hx hb dX4_add_20 rfl (lv_at hl 1 rfl) ?_
    obtain ⟨hin, hf⟩ := itx hf
    refine as_X4_X4f0 X J hin dX4_add_21 (fun σ1 H locs eq J => ?_)
    have hf := bnd_eq eq hf
    clear eq
    refine lv_aload_n hx hb dX4_add_22 rfl (lv_at hl 0 rfl) ?_
    refine gf_X4_13 X J dX4_add_23 ?_
    refine lv_aload_n hx hb dX4_add_26 rfl (lv_at hl 0 rfl) ?_
    refine gf_X4_26 X J dX4_add_27 ?_
    refine lv_iload_n hx hb dX4_add_30 rfl (lv_at hl 2 rfl) ?_
    obtain ⟨hin, hf⟩ := itx hf
    refine as_X4_X4f1 X J hin dX4_add_31 (fun σ2 H locs eq J => ?_)
    have hf := bnd_eq eq hf
    clear eq
    refine lv_aload_n hx hb dX4_add_32 rfl (lv_at hl 0 rfl) ?_
    refine gf_X4_17 X J dX4_add_33 ?_
    refine lv_aload_n hx hb dX4_add_36 rfl (lv_at hl 0 rfl) ?_
    refine gf_X4_26 X J dX4_add_37 ?_
    refine lv_iload hx hb dX4_add_40 (lv_at hl 3 rfl) ?_
    obtain ⟨hin, hf⟩ := itx hf
    refine as_X4_X4f2 X J hin dX4_add_42 (fun σ3 H locs eq J => ?_)
    have hf := bnd_eq eq hf
    clear eq
    refine lv_aload_n hx hb dX4_add_43 rfl (lv_at hl 0 rfl) ?_
    refine gf_X4_20 X J dX4_add_44 ?_
    refine lv_aload_n hx hb dX4_add_47 rfl (lv_at hl 0 rfl) ?_
    refine gf_X4_26 X J dX4_add_48 ?_
    refine lv_iload hx hb dX4_add_51 (lv_at hl 4 rfl) ?_
    obtain ⟨hin, hf⟩ := itx hf
    refine as_X4_X4f3 X J hin dX4_add_53 (fun σ4 H locs eq J => ?_)
    have hf := bnd_eq eq hf
    clear eq
    refine lv_aload_n hx hb dX4_add_54 rfl (lv_at hl 0 rfl) ?_
    refine gf_X4_23 X J dX4_add_55 ?_
    refine lv_aload_n hx hb dX4_add_58 rfl (lv_at hl 0 rfl) ?_
    refine gf_X4_26 X J dX4_add_59 ?_
    refine lv_iconst (v := (-1 : Int32)) hx hb dX4_add_62 (by decide) ?_
    obtain ⟨hin, hf⟩ := itx hf
    refine as_X4_X4f4 X J hin dX4_add_63 (fun σ5 H locs eq J => ?_)
    have hf := bnd_eq eq hf
    clear eq
    refine lv_aload_n hx hb dX4_add_64 rfl (lv_at hl 0 rfl) ?_
    refine lv_dup hx hb dX4_add_65 rfl ?_
    refine gf_X4_26 X J dX4_add_66 ?_
    refine lv_iconst (v := (1 : Int32)) hx hb dX4_add_69 (by decide) ?_
    refine lv_iadd hx hb dX4_add_70 ?_
    refine pf_X4_26 X J dX4_add_71 (fun σ6 H locs eq J => ?_)
    have hf := bnd_eq eq hf
    clear eq
    exact zr_vret X J hf dX4_add_74
set_option maxHeartbeats 4000000 in
theorem tX4_setNode {a1_ : Int32} {a2_ : Int32}  {σ u : zSt} {r : Unit} (hf : fX4_setNode ln N M a1_ a2_ σ = some (r, u)) : zMv l yX4_setNode cX4_setNode 3 none (0) D cy shC ad ts ln [.ref (ad 4), .int a1_, .int a2_] σ u := by
  refine zM_of (by decide) (Nat.le_of_ble_eq_true rfl) (fun p e s m args below meth c ls ha X J hl => ?_)
  have hx := X.1
  have hb := X.2.1
  have hl : lv_has ls 3 [(0, .ref (ad 4)), (1, .int a1_), (2, .int a2_)] := hl
  generalize s.heap = H at J ⊢
  generalize ([] : List Loc) = locs at J ⊢
  show W p l e (zRm (0)) s m args below meth c H locs 0 0 (zQv D cy shC ad ts ln below args s (r, u)) (F0 m 0 ls [])
  unfold fX4_setNode at hf
  refine lv_iload_n hx hb dX4_setNode_0 rfl (lv_at hl 1 rfl) ?_
  refine lv_if_lt hx hb dX4_setNode_1 rfl (fun h => ?_) (fun h => ?_)
  · have hf := itp h hf
    exact zr_vret X J hf dX4_setNode_19
  · have hf := itn h hf
    refine lv_iload_n hx hb dX4_setNode_4 rfl (lv_at hl 1 rfl) ?_
    refine lv_aload_n hx hb dX4_setNode_5 rfl (lv_at hl 0 rfl) ?_
    refine gf_X4_26 X J dX4_setNode_6 ?_
    refine lv_icmp_ge hx hb dX4_setNode_9 rfl (fun h => ?_) (fun h => ?_)
    · have hf := itp h hf
      exact zr_vret X J hf dX4_setNode_19
    · have hf := itn h hf
      refine lv_aload_n hx hb dX4_setNode_12 rfl (lv_at hl 0 rfl) ?_
      refine gf_X4_23 X J dX4_setNode_13 ?_
      refine lv_iload_n hx hb dX4_setNode_16 rfl (lv_at hl 1 rfl) ?_
      refine lv_iload_n hx hb dX4_setNode_17 rfl (lv_at hl 2 rfl) ?_
      obtain ⟨hin, hf⟩ := itx hf
      refine as_X4_X4f4 X J hin dX4_setNode_18 (fun σ1 H locs eq J => ?_)
      have hf := bnd_eq eq hf
      clear eq
      exact zr_vret X J hf dX4_setNode_19
set_option maxHeartbeats 4000000 in
theorem tX1_enter   {σ u : zSt} {r : Unit} (hf : fX1_enter ln N M  σ = some (r, u)) : zMv l yX1_enter cX1_enter 1 none (1) D cy shC ad ts ln [.ref (ad 3)] σ u := by
  refine zM_of (by decide) (Nat.le_of_ble_eq_true rfl) (fun p e s m args below meth c ls ha X J hl => ?_)
  have hx := X.1
  have hb := X.2.1
  have hl : lv_has ls 1 [(0, .ref (ad 3))] := hl
  generalize s.heap = H at J ⊢
  generalize ([] : List Loc) = locs at J ⊢
  show W p l e (zRm (1)) s m args below meth c H locs 0 0 (zQv D cy shC ad ts ln below args s (r, u)) (F0 m 0 ls [])
  unfold fX1_enter at hf
  refine lv_aload_n hx hb dX1_enter_0 rfl (lv_at hl 0 rfl) ?_
  refine gf_X1_32 X J dX1_enter_1 ?_
  refine lv_bipush (v := (40 : Int32)) hx hb dX1_enter_4 (by decide) ?_
  refine lv_icmp_lt hx hb dX1_enter_6 rfl (fun h => ?_) (fun h => ?_)
  · have hf := itp h hf
    refine lv_aload_n hx hb dX1_enter_21 rfl (lv_at hl 0 rfl) ?_
    refine lv_dup hx hb dX1_enter_22 rfl ?_
    refine gf_X1_32 X J dX1_enter_23 ?_
    refine lv_iconst (v := (1 : Int32)) hx hb dX1_enter_26 (by decide) ?_
    refine lv_iadd hx hb dX1_enter_27 ?_
    refine pf_X1_32 X J dX1_enter_28 (fun σ1 H locs eq J => ?_)
    have hf := bnd_eq eq hf
    clear eq
    exact zr_vret X J hf dX1_enter_31
  · have hf := itn h hf
    refine lv_aload_n hx hb dX1_enter_9 rfl (lv_at hl 0 rfl) ?_
    refine gf_X1_9 X J dX1_enter_10 ?_
    refine lv_bipush (v := (8 : Int32)) hx hb dX1_enter_13 (by decide) ?_
    obtain ⟨r2, σ3, hc, hf⟩ := obd_some hf
    refine zr_callNv (As := [.int (8 : Int32)]) (rest := []) X J 1 ho_C_X7.1 ho_C_X7.2.1 ho_C_X7.2.2 yy_X7_failHere mw_methodLinkNest_TinyCDesk_44_TinyCScan_failHere_IV_TinyC (d := 0) (zR_ok (by omega) (by decide)) hl.1 rfl (Nat.le_of_ble_eq_true rfl) (tX7_failHere  hc) dX1_enter_15 (fun H locs J => ?_)
    refine lv_goto hx hb dX1_enter_18 rfl ?_
    exact zr_vret X J hf dX1_enter_31
set_option maxHeartbeats 4000000 in
theorem tX7_need {a1_ : Int32}  {σ u : zSt} {r : Unit} (hf : fX7_need ln N M a1_ σ = some (r, u)) : zMv l yX7_need cX7_need 2 none (1) D cy shC ad ts ln [.ref (ad 1), .int a1_] σ u := by
  refine zM_of (by decide) (Nat.le_of_ble_eq_true rfl) (fun p e s m args below meth c ls ha X J hl => ?_)
  have hx := X.1
  have hb := X.2.1
  have hl : lv_has ls 2 [(0, .ref (ad 1)), (1, .int a1_)] := hl
  generalize s.heap = H at J ⊢
  generalize ([] : List Loc) = locs at J ⊢
  show W p l e (zRm (1)) s m args below meth c H locs 0 0 (zQv D cy shC ad ts ln below args s (r, u)) (F0 m 0 ls [])
  unfold fX7_need at hf
  refine lv_aload_n hx hb dX7_need_0 rfl (lv_at hl 0 rfl) ?_
  refine gf_X7_28 X J dX7_need_1 ?_
  refine lv_iload_n hx hb dX7_need_4 rfl (lv_at hl 1 rfl) ?_
  refine lv_icmp_eq hx hb dX7_need_5 rfl (fun h => ?_) (fun h => ?_)
  · have hf := itp h hf
    exact zr_vret X J hf dX7_need_13
  · have hf := itn h hf
    refine lv_aload_n hx hb dX7_need_8 rfl (lv_at hl 0 rfl) ?_
    refine lv_iconst (v := (2 : Int32)) hx hb dX7_need_9 (by decide) ?_
    obtain ⟨r1, σ2, hc, hf⟩ := obd_some hf
    refine zr_callv (As := [.int (2 : Int32)]) (rest := []) X J 1 ho_C_X7.1 ho_C_X7.2.1 ho_C_X7.2.2 yy_X7_failHere mw_methodLink_TinyCScan_34_TinyCScan_failHere_IV (d := 0) (zR_ok (by omega) (by decide)) hl.1 rfl (Nat.le_of_ble_eq_true rfl) (tX7_failHere  hc) dX7_need_10 (fun H locs J => ?_)
    exact zr_vret X J hf dX7_need_13
set_option maxHeartbeats 4000000 in
theorem tX7_pass {a1_ : Int32}  {σ u : zSt} {r : Unit} (hf : fX7_pass ln N M a1_ σ = some (r, u)) : zMv l yX7_pass cX7_pass 2 none (2) D cy shC ad ts ln [.ref (ad 1), .int a1_] σ u := by
  refine zM_of (by decide) (Nat.le_of_ble_eq_true rfl) (fun p e s m args below meth c ls ha X J hl => ?_)
  have hx := X.1
  have hb := X.2.1
  have hl : lv_has ls 2 [(0, .ref (ad 1)), (1, .int a1_)] := hl
  generalize s.heap = H at J ⊢
  generalize ([] : List Loc) = locs at J ⊢
  show W p l e (zRm (2)) s m args below meth c H locs 0 0 (zQv D cy shC ad ts ln below args s (r, u)) (F0 m 0 ls [])
  unfold fX7_pass at hf
  refine lv_aload_n hx hb dX7_pass_0 rfl (lv_at hl 0 rfl) ?_
  refine lv_iload_n hx hb dX7_pass_1 rfl (lv_at hl 1 rfl) ?_
  obtain ⟨r1, σ2, hc, hf⟩ := obd_some hf
  refine zr_callv (As := [.int a1_]) (rest := []) X J 1 ho_C_X7.1 ho_C_X7.2.1 ho_C_X7.2.2 yy_X7_need mw_methodLink_TinyCScan_38_TinyCScan_need_IV (d := 1) (zR_ok (by omega) (by decide)) hl.1 rfl (Nat.le_of_ble_eq_true rfl) (tX7_need  hc) dX7_pass_2 (fun H locs J => ?_)
  refine lv_aload_n hx hb dX7_pass_5 rfl (lv_at hl 0 rfl) ?_
  obtain ⟨r3, σ4, hc, hf⟩ := obd_some hf
  refine zr_callv (As := []) (rest := []) X J 1 ho_C_X7.1 ho_C_X7.2.1 ho_C_X7.2.2 yy_X7_come mw_methodLink_TinyCScan_25_TinyCScan_come_V (d := 1) (zR_ok (by omega) (by decide)) hl.1 rfl (Nat.le_of_ble_eq_true rfl) (tX7_come  hc) dX7_pass_6 (fun H locs J => ?_)
  exact zr_vret X J hf dX7_pass_9
set_option maxHeartbeats 4000000 in
theorem bX6_parameter_69 {o : Unit × zSt} (X : zX p s m args meth c D cy shC ad ts cX6_parameter 5 none RX6)  {x2_ : Int32} {x3_ : Int64}  {σ : zSt} {H : Heap} {locs : List Loc} {ls : Array Slot} (J : zJ D cy shC ad ln s σ H locs) (hl : lv_has ls 5 [(0, .ref (ad 2)), (2, .int x2_), (3, .long x3_)]) (hf : fX6_parameter_b69 ln N M  x2_ x3_ σ = some o) : W p l e (zRm (2)) s m args below meth c H locs 0 0 (zQv D cy shC ad ts ln below args s o) (F0 m 69 ls []) := by
  have hx := X.1
  have hb := X.2.1
  unfold fX6_parameter_b69 at hf
  refine lv_aload_n hx hb dX6_parameter_69 rfl (lv_at hl 0 rfl) ?_
  refine gf_X6_26 X J dX6_parameter_70 ?_
  refine lv_lload_n hx hb dX6_parameter_73 rfl (lv_at hl 2 rfl) ?_
  refine lv_iconst (v := (3 : Int32)) hx hb dX6_parameter_74 (by decide) ?_
  refine lv_iload_n hx hb dX6_parameter_75 rfl (lv_at hl 1 rfl) ?_
  refine lv_iconst (v := (0 : Int32)) hx hb dX6_parameter_76 (by decide) ?_
  obtain ⟨r4, σ5, hc, hf⟩ := obd_some hf
  refine zr_callNv (As := [.long x3_, .int (3 : Int32), .int x2_, .int (0 : Int32)]) (rest := []) X J 4 ho_C_X4.1 ho_C_X4.2.1 ho_C_X4.2.2 yy_X4_add mw_methodLinkNest_TinyCReader_151_TinyCNames_add_JIIIV_TinyC (d := 0) (zR_ok (by omega) (by decide)) hl.1 rfl (Nat.le_of_ble_eq_true rfl) (tX4_add  hc) dX6_parameter_77 (fun H locs J => ?_)
  refine lv_aload_n hx hb dX6_parameter_80 rfl (lv_at hl 0 rfl) ?_
  refine gf_X6_21 X J dX6_parameter_81 ?_
  obtain ⟨r6, σ7, hc, hf⟩ := obd_some hf
  refine zr_callNv (As := []) (rest := []) X J 1 ho_C_X7.1 ho_C_X7.2.1 ho_C_X7.2.2 yy_X7_come mw_methodLinkNest_TinyCReader_81_TinyCScan_come_V_TinyC (d := 1) (zR_ok (by omega) (by decide)) hl.1 rfl (Nat.le_of_ble_eq_true rfl) (tX7_come  hc) dX6_parameter_84 (fun H locs J => ?_)
  exact zr_vret X J hf dX6_parameter_87
set_option maxHeartbeats 4000000 in
theorem tX6_parameter {a1_ : Int32} {a2_ : Int32}  {σ u : zSt} {r : Unit} (hf : fX6_parameter ln N M a1_ a2_ σ = some (r, u)) : zMv l yX6_parameter cX6_parameter 5 none (2) D cy shC ad ts ln [.ref (ad 2), .int a1_, .int a2_] σ u := by
  refine zM_of (by decide) (Nat.le_of_ble_eq_true rfl) (fun p e s m args below meth c ls ha X J hl => ?_)
  have hx := X.1
  have hb := X.2.1
  have hl : lv_has ls 5 [(0, .ref (ad 2)), (1, .int a1_), (2, .int a2_)] := hl
  generalize s.heap = H at J ⊢
  generalize ([] : List Loc) = locs at J ⊢
  show W p l e (zRm (2)) s m args below meth c H locs 0 0 (zQv D cy shC ad ts ln below args s (r, u)) (F0 m 0 ls [])
  unfold fX6_parameter at hf
  refine lv_aload_n hx hb dX6_parameter_0 rfl (lv_at hl 0 rfl) ?_
  refine gf_X6_21 X J dX6_parameter_1 ?_
  refine gf_X6_87 X J dX6_parameter_4 ?_
  refine lv_topl (fun x1 eq => ?_)
  have hf := bnd_eq eq hf
  clear eq
  refine lv_lstore_n hx hb dX6_parameter_7 rfl hl (by decide) rfl (fun ls hl => ?_)
  have hl : lv_has ls 5 [(3, .long x1), (0, .ref (ad 2)), (1, .int a1_), (2, .int a2_)] := hl
  refine lv_aload_n hx hb dX6_parameter_8 rfl (lv_at hl 1 rfl) ?_
  refine gf_X6_21 X J dX6_parameter_9 ?_
  refine gf_X6_78 X J dX6_parameter_12 ?_
  refine lv_bipush (v := (40 : Int32)) hx hb dX6_parameter_15 (by decide) ?_
  refine lv_icmp_eq hx hb dX6_parameter_17 rfl (fun h => ?_) (fun h => ?_)
  · have hf := itp h hf
    refine lv_aload_n hx hb dX6_parameter_31 rfl (lv_at hl 1 rfl) ?_
    refine gf_X6_26 X J dX6_parameter_32 ?_
    refine lv_lload_n hx hb dX6_parameter_35 rfl (lv_at hl 0 rfl) ?_
    refine lv_iload_n hx hb dX6_parameter_36 rfl (lv_at hl 2 rfl) ?_
    obtain ⟨r2, σ3, hc, hf⟩ := obd_some hf
    refine zr_callNi (As := [.long x1, .int a1_]) (rest := []) X J 4 ho_C_X4.1 ho_C_X4.2.1 ho_C_X4.2.2 yy_X4_find mw_methodLinkNest_TinyCReader_136_TinyCNames_find_JII_TinyC (d := 0) (zR_ok (by omega) (by decide)) hl.1 rfl (Nat.le_of_ble_eq_true rfl) (tX4_find  hc) dX6_parameter_37 (fun H locs J => ?_)
    refine lv_if_lt hx hb dX6_parameter_40 rfl (fun h => ?_) (fun h => ?_)
    · have hf := itp h hf
      refine lv_iload_n hx hb dX6_parameter_54 rfl (lv_at hl 3 rfl) ?_
      refine lv_bipush (v := (8 : Int32)) hx hb dX6_parameter_55 (by decide) ?_
      refine lv_icmp_lt hx hb dX6_parameter_57 rfl (fun h => ?_) (fun h => ?_)
      · have hf := itp h hf
        exact bX6_parameter_69 X   J (lv_sub hl [1, 3, 0] rfl) hf
      · have hf := itn h hf
        refine lv_aload_n hx hb dX6_parameter_60 rfl (lv_at hl 1 rfl) ?_
        refine gf_X6_21 X J dX6_parameter_61 ?_
        refine lv_bipush (v := (6 : Int32)) hx hb dX6_parameter_64 (by decide) ?_
        obtain ⟨r8, σ9, hc, hf⟩ := obd_some hf
        refine zr_callNv (As := [.int (6 : Int32)]) (rest := []) X J 1 ho_C_X7.1 ho_C_X7.2.1 ho_C_X7.2.2 yy_X7_failHere mw_methodLinkNest_TinyCReader_133_TinyCScan_failHere_IV_TinyC (d := 0) (zR_ok (by omega) (by decide)) hl.1 rfl (Nat.le_of_ble_eq_true rfl) (tX7_failHere  hc) dX6_parameter_66 (fun H locs J => ?_)
        exact bX6_parameter_69 X   J (lv_sub hl [1, 3, 0] rfl) hf
    · have hf := itn h hf
      refine lv_aload_n hx hb dX6_parameter_43 rfl (lv_at hl 1 rfl) ?_
      refine gf_X6_21 X J dX6_parameter_44 ?_
      refine lv_iconst (v := (4 : Int32)) hx hb dX6_parameter_47 (by decide) ?_
      obtain ⟨r10, σ11, hc, hf⟩ := obd_some hf
      refine zr_callNv (As := [.int (4 : Int32)]) (rest := []) X J 1 ho_C_X7.1 ho_C_X7.2.1 ho_C_X7.2.2 yy_X7_failHere mw_methodLinkNest_TinyCReader_133_TinyCScan_failHere_IV_TinyC (d := 0) (zR_ok (by omega) (by decide)) hl.1 rfl (Nat.le_of_ble_eq_true rfl) (tX7_failHere  hc) dX6_parameter_48 (fun H locs J => ?_)
      refine lv_goto hx hb dX6_parameter_51 rfl ?_
      exact bX6_parameter_69 X   J (lv_sub hl [1, 3, 0] rfl) hf
  · have hf := itn h hf
    refine lv_aload_n hx hb dX6_parameter_20 rfl (lv_at hl 1 rfl) ?_
    refine gf_X6_21 X J dX6_parameter_21 ?_
    refine lv_iconst (v := (2 : Int32)) hx hb dX6_parameter_24 (by decide) ?_
    obtain ⟨r12, σ13, hc, hf⟩ := obd_some hf
    refine zr_callNv (As := [.int (2 : Int32)]) (rest := []) X J 1 ho_C_X7.1 ho_C_X7.2.1 ho_C_X7.2.2 yy_X7_failHere mw_methodLinkNest_TinyCReader_133_TinyCScan_failHere_IV_TinyC (d := 0) (zR_ok (by omega) (by decide)) hl.1 rfl (Nat.le_of_ble_eq_true rfl) (tX7_failHere  hc) dX6_parameter_25 (fun H locs J => ?_)
    refine lv_goto hx hb dX6_parameter_28 rfl ?_
    exact bX6_parameter_69 X   J (lv_sub hl [1, 3, 0] rfl) hf
set_option maxHeartbeats 4000000 in
theorem tX1_leave   {σ u : zSt} {r : Unit} (hf : fX1_leave ln N M  σ = some (r, u)) : zMv l yX1_leave cX1_leave 1 none (0) D cy shC ad ts ln [.ref (ad 3)] σ u := by
  refine zM_of (by decide) (Nat.le_of_ble_eq_true rfl) (fun p e s m args below meth c ls ha X J hl => ?_)
  have hx := X.1
  have hb := X.2.1
  have hl : lv_has ls 1 [(0, .ref (ad 3))] := hl
  generalize s.heap = H at J ⊢
  generalize ([] : List Loc) = locs at J ⊢
  show W p l e (zRm (0)) s m args below meth c H locs 0 0 (zQv D cy shC ad ts ln below args s (r, u)) (F0 m 0 ls [])
  unfold fX1_leave at hf
  refine lv_aload_n hx hb dX1_leave_0 rfl (lv_at hl 0 rfl) ?_
  refine lv_dup hx hb dX1_leave_1 rfl ?_
  refine gf_X1_32 X J dX1_leave_2 ?_
  refine lv_iconst (v := (1 : Int32)) hx hb dX1_leave_5 (by decide) ?_
  refine lv_isub hx hb dX1_leave_6 ?_
  refine pf_X1_32 X J dX1_leave_7 (fun σ1 H locs eq J => ?_)
  have hf := bnd_eq eq hf
  clear eq
  exact zr_vret X J hf dX1_leave_10
set_option maxHeartbeats 4000000 in
theorem tX4_setPlace {a1_ : Int32} {a2_ : Int32}  {σ u : zSt} {r : Unit} (hf : fX4_setPlace ln N M a1_ a2_ σ = some (r, u)) : zMv l yX4_setPlace cX4_setPlace 3 none (0) D cy shC ad ts ln [.ref (ad 4), .int a1_, .int a2_] σ u := by
  refine zM_of (by decide) (Nat.le_of_ble_eq_true rfl) (fun p e s m args below meth c ls ha X J hl => ?_)
  have hx := X.1
  have hb := X.2.1
  have hl : lv_has ls 3 [(0, .ref (ad 4)), (1, .int a1_), (2, .int a2_)] := hl
  generalize s.heap = H at J ⊢
  generalize ([] : List Loc) = locs at J ⊢
  show W p l e (zRm (0)) s m args below meth c H locs 0 0 (zQv D cy shC ad ts ln below args s (r, u)) (F0 m 0 ls [])
  unfold fX4_setPlace at hf
  refine lv_iload_n hx hb dX4_setPlace_0 rfl (lv_at hl 1 rfl) ?_
  refine lv_if_lt hx hb dX4_setPlace_1 rfl (fun h => ?_) (fun h => ?_)
  · have hf := itp h hf
    exact zr_vret X J hf dX4_setPlace_19
  · have hf := itn h hf
    refine lv_iload_n hx hb dX4_setPlace_4 rfl (lv_at hl 1 rfl) ?_
    refine lv_aload_n hx hb dX4_setPlace_5 rfl (lv_at hl 0 rfl) ?_
    refine gf_X4_26 X J dX4_setPlace_6 ?_
    refine lv_icmp_ge hx hb dX4_setPlace_9 rfl (fun h => ?_) (fun h => ?_)
    · have hf := itp h hf
      exact zr_vret X J hf dX4_setPlace_19
    · have hf := itn h hf
      refine lv_aload_n hx hb dX4_setPlace_12 rfl (lv_at hl 0 rfl) ?_
      refine gf_X4_17 X J dX4_setPlace_13 ?_
      refine lv_iload_n hx hb dX4_setPlace_16 rfl (lv_at hl 1 rfl) ?_
      refine lv_iload_n hx hb dX4_setPlace_17 rfl (lv_at hl 2 rfl) ?_
      obtain ⟨hin, hf⟩ := itx hf
      refine as_X4_X4f2 X J hin dX4_setPlace_18 (fun σ1 H locs eq J => ?_)
      have hf := bnd_eq eq hf
      clear eq
      exact zr_vret X J hf dX4_setPlace_19
set_option maxHeartbeats 4000000 in
theorem bX6_parameters_113 {o : Int32 × zSt} (X : zX p s m args meth c D cy shC ad ts cX6_parameters 4 (some .int) RX6)  : ∀ (n : Nat) (x1_ : Int32) (x2_ : Int32) (x3_ : Int32) (σ : zSt) (H : Heap) (locs : List Loc) (ls : Array Slot), zJ D cy shC ad ln s σ H locs → lv_has ls 4 [(0, .ref (ad 2)), (1, .int x1_), (2, .int x2_), (3, .int x3_)] → fX6_parameters_b113 ln N M  n x1_ x2_ x3_ σ = some o → W p l e (zRm (3)) s m args below meth c H locs 0 0 (zQi D cy shC ad ts ln below args s o) (F0 m 113 ls []) := by
  have hx := X.1
  have hb := X.2.1
  intro n
  induction n with
  | zero =>
    intro x1_ x2_ x3_ σ H locs ls J hl hf
    rw [fX6_parameters_b113] at hf
    cases hf
  | succ n ih =>
    intro x1_ x2_ x3_ σ H locs ls J hl hf
    rw [fX6_parameters_b113] at hf
    refine lv_iload_n hx hb dX6_parameters_113 rfl (lv_at hl 3 rfl) ?_
    refine lv_iload_n hx hb dX6_parameters_114 rfl (lv_at hl 2 rfl) ?_
    refine lv_icmp_ge hx hb dX6_parameters_115 rfl (fun h => ?_) (fun h => ?_)
    · have hf := itp h hf
      refine lv_iload_n hx hb dX6_parameters_139 rfl (lv_at hl 2 rfl) ?_
      exact zr_iret X J hf dX6_parameters_140
    · have hf := itn h hf
      refine lv_aload_n hx hb dX6_parameters_118 rfl (lv_at hl 0 rfl) ?_
      refine gf_X6_26 X J dX6_parameters_119 ?_
      refine lv_iload_n hx hb dX6_parameters_122 rfl (lv_at hl 1 rfl) ?_
      refine lv_iload_n hx hb dX6_parameters_123 rfl (lv_at hl 3 rfl) ?_
      refine lv_iadd hx hb dX6_parameters_124 ?_
      refine lv_iload_n hx hb dX6_parameters_125 rfl (lv_at hl 3 rfl) ?_
      refine lv_iconst (v := (2 : Int32)) hx hb dX6_parameters_126 (by decide) ?_
      refine lv_isub hx hb dX6_parameters_127 ?_
      refine lv_iload_n hx hb dX6_parameters_128 rfl (lv_at hl 2 rfl) ?_
      refine lv_isub hx hb dX6_parameters_129 ?_
      obtain ⟨r12, σ13, hc, hf⟩ := obd_some hf
      refine zr_callNv (As := [.int (x1_ + x3_), .int ((x3_ - (2 : Int32)) - x2_)]) (rest := []) X J 4 ho_C_X4.1 ho_C_X4.2.1 ho_C_X4.2.2 yy_X4_setPlace mw_methodLinkNest_TinyCReader_223_TinyCNames_setPlace_IIV_TinyC (d := 0) (zR_ok (by omega) (by decide)) hl.1 rfl (Nat.le_of_ble_eq_true rfl) (tX4_setPlace  hc) dX6_parameters_130 (fun H locs J => ?_)
      obtain ⟨x14, eq⟩ : ∃ z, z = x3_ + (1 : Int32) := ⟨_, rfl⟩
      have hf := bnd_eq eq hf
      refine lv_iinc hx hb dX6_parameters_133 hl (k := 3) rfl (v := x14) (by rw [eq]; rfl) (by decide) rfl (fun ls hl => ?_)
      clear eq
      have hl : lv_has ls 4 [(3, .int x14), (0, .ref (ad 2)), (1, .int x1_), (2, .int x2_)] := hl
      refine lv_goto hx hb dX6_parameters_136 rfl ?_
      exact ih _ _ _ _ _ _ _ J (lv_sub hl [1, 2, 3, 0] rfl) hf
set_option maxHeartbeats 4000000 in
theorem bX6_parameters_87 {o : Int32 × zSt} (X : zX p s m args meth c D cy shC ad ts cX6_parameters 4 (some .int) RX6)  {x1_ : Int32} {x2_ : Int32}  {σ : zSt} {H : Heap} {locs : List Loc} {ls : Array Slot} (J : zJ D cy shC ad ln s σ H locs) (hl : lv_has ls 4 [(0, .ref (ad 2)), (1, .int x1_), (2, .int x2_)]) (hf : fX6_parameters_b87 ln N M  x1_ x2_ σ = some o) : W p l e (zRm (3)) s m args below meth c H locs 0 0 (zQi D cy shC ad ts ln below args s o) (F0 m 87 ls []) := by
  have hx := X.1
  have hb := X.2.1
  unfold fX6_parameters_b87 at hf
  refine lv_aload_n hx hb dX6_parameters_87 rfl (lv_at hl 0 rfl) ?_
  refine gf_X6_21 X J dX6_parameters_88 ?_
  refine lv_bipush (v := (50 : Int32)) hx hb dX6_parameters_91 (by decide) ?_
  obtain ⟨r6, σ7, hc, hf⟩ := obd_some hf
  refine zr_callNv (As := [.int (50 : Int32)]) (rest := []) X J 1 ho_C_X7.1 ho_C_X7.2.1 ho_C_X7.2.2 yy_X7_pass mw_methodLinkNest_TinyCReader_145_TinyCScan_pass_IV_TinyC (d := 2) (zR_ok (by omega) (by decide)) hl.1 rfl (Nat.le_of_ble_eq_true rfl) (tX7_pass  hc) dX6_parameters_93 (fun H locs J => ?_)
  refine lv_aload_n hx hb dX6_parameters_96 rfl (lv_at hl 0 rfl) ?_
  refine gf_X6_9 X J dX6_parameters_97 ?_
  obtain ⟨r8, σ9, hc, hf⟩ := obd_some hf
  refine zr_callNv (As := []) (rest := []) X J 3 ho_C_X1.1 ho_C_X1.2.1 ho_C_X1.2.2 yy_X1_leave mw_methodLinkNest_TinyCReader_220_TinyCDesk_leave_V_TinyC (d := 0) (zR_ok (by omega) (by decide)) hl.1 rfl (Nat.le_of_ble_eq_true rfl) (tX1_leave  hc) dX6_parameters_100 (fun H locs J => ?_)
  refine lv_aload_n hx hb dX6_parameters_103 rfl (lv_at hl 0 rfl) ?_
  refine gf_X6_9 X J dX6_parameters_104 ?_
  refine lv_iload_n hx hb dX6_parameters_107 rfl (lv_at hl 2 rfl) ?_
  refine pf_X6_202 X J dX6_parameters_108 (fun σ10 H locs eq J => ?_)
  have hf := bnd_eq eq hf
  clear eq
  refine lv_iconst (v := (0 : Int32)) hx hb dX6_parameters_111 (by decide) ?_
  refine lv_topi (fun x11 eq => ?_)
  have hf := bnd_eq eq hf
  clear eq
  refine lv_istore_n hx hb dX6_parameters_112 rfl hl (by decide) rfl (fun ls hl => ?_)
  have hl : lv_has ls 4 [(3, .int x11), (0, .ref (ad 2)), (1, .int x1_), (2, .int x2_)] := hl
  exact bX6_parameters_113 X  N _ _ _ _ _ _ _ J (lv_sub hl [1, 2, 3, 0] rfl) hf
set_option maxHeartbeats 4000000 in
theorem bX6_parameters_30 {o : Int32 × zSt} (X : zX p s m args meth c D cy shC ad ts cX6_parameters 4 (some .int) RX6)  : ∀ (n : Nat) (x1_ : Int32) (x2_ : Int32) (x3_ : Int32) (σ : zSt) (H : Heap) (locs : List Loc) (ls : Array Slot), zJ D cy shC ad ln s σ H locs → lv_has ls 4 [(0, .ref (ad 2)), (1, .int x1_), (2, .int x2_), (3, .int x3_)] → fX6_parameters_b30 ln N M  n x1_ x2_ x3_ σ = some o → W p l e (zRm (3)) s m args below meth c H locs 0 0 (zQi D cy shC ad ts ln below args s o) (F0 m 30 ls []) := by
  have hx := X.1
  have hb := X.2.1
  intro n
  induction n with
  | zero =>
    intro x1_ x2_ x3_ σ H locs ls J hl hf
    rw [fX6_parameters_b30] at hf
    cases hf
  | succ n ih =>
    intro x1_ x2_ x3_ σ H locs ls J hl hf
    rw [fX6_parameters_b30] at hf
    refine lv_iload_n hx hb dX6_parameters_30 rfl (lv_at hl 3 rfl) ?_
    refine lv_aload_n hx hb dX6_parameters_31 rfl (lv_at hl 0 rfl) ?_
    refine gf_X6_21 X J dX6_parameters_32 ?_
    refine gf_X6_74 X J dX6_parameters_35 ?_
    refine lv_icmp_gt hx hb dX6_parameters_38 rfl (fun h => ?_) (fun h => ?_)
    · have hf := itp h hf
      exact bX6_parameters_87 X   J (lv_sub hl [0, 1, 2] rfl) hf
    · have hf := itn h hf
      refine lv_aload_n hx hb dX6_parameters_41 rfl (lv_at hl 0 rfl) ?_
      refine gf_X6_21 X J dX6_parameters_42 ?_
      refine lv_bipush (v := (42 : Int32)) hx hb dX6_parameters_45 (by decide) ?_
      obtain ⟨r16, σ17, hc, hf⟩ := obd_some hf
      refine zr_callNv (As := [.int (42 : Int32)]) (rest := []) X J 1 ho_C_X7.1 ho_C_X7.2.1 ho_C_X7.2.2 yy_X7_pass mw_methodLinkNest_TinyCReader_145_TinyCScan_pass_IV_TinyC (d := 2) (zR_ok (by omega) (by decide)) hl.1 rfl (Nat.le_of_ble_eq_true rfl) (tX7_pass  hc) dX6_parameters_47 (fun H locs J => ?_)
      refine lv_aload_n hx hb dX6_parameters_50 rfl (lv_at hl 0 rfl) ?_
      refine lv_iload_n hx hb dX6_parameters_51 rfl (lv_at hl 1 rfl) ?_
      refine lv_iload_n hx hb dX6_parameters_52 rfl (lv_at hl 2 rfl) ?_
      obtain ⟨r18, σ19, hc, hf⟩ := obd_some hf
      refine zr_callv (As := [.int x1_, .int x2_]) (rest := []) X J 2 ho_C_X6.1 ho_C_X6.2.1 ho_C_X6.2.2 yy_X6_parameter mw_methodLink_TinyCReader_217_TinyCReader_parameter_IIV (d := 2) (zR_ok (by omega) (by decide)) hl.1 rfl (Nat.le_of_ble_eq_true rfl) (tX6_parameter  hc) dX6_parameters_53 (fun H locs J => ?_)
      obtain ⟨x20, eq⟩ : ∃ z, z = x2_ + (1 : Int32) := ⟨_, rfl⟩
      have hf := bnd_eq eq hf
      refine lv_iinc hx hb dX6_parameters_56 hl (k := 2) rfl (v := x20) (by rw [eq]; rfl) (by decide) rfl (fun ls hl => ?_)
      clear eq
      have hl : lv_has ls 4 [(2, .int x20), (0, .ref (ad 2)), (1, .int x1_), (3, .int x3_)] := hl
      refine lv_aload_n hx hb dX6_parameters_59 rfl (lv_at hl 1 rfl) ?_
      refine gf_X6_21 X J dX6_parameters_60 ?_
      refine gf_X6_78 X J dX6_parameters_63 ?_
      refine lv_bipush (v := (55 : Int32)) hx hb dX6_parameters_66 (by decide) ?_
      refine lv_icmp_eq hx hb dX6_parameters_68 rfl (fun h => ?_) (fun h => ?_)
      · have hf := itp h hf
        refine lv_aload_n hx hb dX6_parameters_74 rfl (lv_at hl 1 rfl) ?_
        refine gf_X6_21 X J dX6_parameters_75 ?_
        obtain ⟨r21, σ22, hc, hf⟩ := obd_some hf
        refine zr_callNv (As := []) (rest := []) X J 1 ho_C_X7.1 ho_C_X7.2.1 ho_C_X7.2.2 yy_X7_come mw_methodLinkNest_TinyCReader_81_TinyCScan_come_V_TinyC (d := 1) (zR_ok (by omega) (by decide)) hl.1 rfl (Nat.le_of_ble_eq_true rfl) (tX7_come  hc) dX6_parameters_78 (fun H locs J => ?_)
        obtain ⟨x23, eq⟩ : ∃ z, z = x3_ + (1 : Int32) := ⟨_, rfl⟩
        have hf := bnd_eq eq hf
        refine lv_iinc hx hb dX6_parameters_81 hl (k := 3) rfl (v := x23) (by rw [eq]; rfl) (by decide) rfl (fun ls hl => ?_)
        clear eq
        have hl : lv_has ls 4 [(3, .int x23), (2, .int x20), (0, .ref (ad 2)), (1, .int x1_)] := hl
        refine lv_goto hx hb dX6_parameters_84 rfl ?_
        exact ih _ _ _ _ _ _ _ J (lv_sub hl [2, 3, 1, 0] rfl) hf
      · have hf := itn h hf
        refine lv_goto hx hb dX6_parameters_71 rfl ?_
        exact bX6_parameters_87 X   J (lv_sub hl [1, 2, 0] rfl) hf
set_option maxHeartbeats 4000000 in
theorem tX6_parameters {a1_ : Int32}  {σ u : zSt} {r : Int32} (hf : fX6_parameters ln N M a1_ σ = some (r, u)) : zMi l yX6_parameters cX6_parameters 4 (some .int) (3) D cy shC ad ts ln [.ref (ad 2), .int a1_] σ r u := by
  refine zM_of (by decide) (Nat.le_of_ble_eq_true rfl) (fun p e s m args below meth c ls ha X J hl => ?_)
  have hx := X.1
  have hb := X.2.1
  have hl : lv_has ls 4 [(0, .ref (ad 2)), (1, .int a1_)] := hl
  generalize s.heap = H at J ⊢
  generalize ([] : List Loc) = locs at J ⊢
  show W p l e (zRm (3)) s m args below meth c H locs 0 0 (zQi D cy shC ad ts ln below args s (r, u)) (F0 m 0 ls [])
  unfold fX6_parameters at hf
  refine lv_aload_n hx hb dX6_parameters_0 rfl (lv_at hl 0 rfl) ?_
  refine gf_X6_9 X J dX6_parameters_1 ?_
  obtain ⟨r1, σ2, hc, hf⟩ := obd_some hf
  refine zr_callNv (As := []) (rest := []) X J 3 ho_C_X1.1 ho_C_X1.2.1 ho_C_X1.2.2 yy_X1_enter mw_methodLinkNest_TinyCReader_199_TinyCDesk_enter_V_TinyC (d := 1) (zR_ok (by omega) (by decide)) hl.1 rfl (Nat.le_of_ble_eq_true rfl) (tX1_enter  hc) dX6_parameters_4 (fun H locs J => ?_)
  refine lv_aload_n hx hb dX6_parameters_7 rfl (lv_at hl 0 rfl) ?_
  refine gf_X6_21 X J dX6_parameters_8 ?_
  obtain ⟨r3, σ4, hc, hf⟩ := obd_some hf
  refine zr_callNv (As := []) (rest := []) X J 1 ho_C_X7.1 ho_C_X7.2.1 ho_C_X7.2.2 yy_X7_come mw_methodLinkNest_TinyCReader_81_TinyCScan_come_V_TinyC (d := 1) (zR_ok (by omega) (by decide)) hl.1 rfl (Nat.le_of_ble_eq_true rfl) (tX7_come  hc) dX6_parameters_11 (fun H locs J => ?_)
  refine lv_iconst (v := (0 : Int32)) hx hb dX6_parameters_14 (by decide) ?_
  refine lv_topi (fun x5 eq => ?_)
  have hf := bnd_eq eq hf
  clear eq
  refine lv_istore_n hx hb dX6_parameters_15 rfl hl (by decide) rfl (fun ls hl => ?_)
  have hl : lv_has ls 4 [(2, .int x5), (0, .ref (ad 2)), (1, .int a1_)] := hl
  refine lv_aload_n hx hb dX6_parameters_16 rfl (lv_at hl 1 rfl) ?_
  refine gf_X6_21 X J dX6_parameters_17 ?_
  refine gf_X6_78 X J dX6_parameters_20 ?_
  refine lv_bipush (v := (50 : Int32)) hx hb dX6_parameters_23 (by decide) ?_
  refine lv_icmp_eq hx hb dX6_parameters_25 rfl (fun h => ?_) (fun h => ?_)
  · have hf := itp h hf
    exact bX6_parameters_87 X   J (lv_sub hl [1, 2, 0] rfl) hf
  · have hf := itn h hf
    refine lv_iconst (v := (0 : Int32)) hx hb dX6_parameters_28 (by decide) ?_
    refine lv_topi (fun x15 eq => ?_)
    have hf := bnd_eq eq hf
    clear eq
    refine lv_istore_n hx hb dX6_parameters_29 rfl hl (by decide) rfl (fun ls hl => ?_)
    have hl : lv_has ls 4 [(3, .int x15), (2, .int x5), (0, .ref (ad 2)), (1, .int a1_)] := hl
    exact bX6_parameters_30 X  N _ _ _ _ _ _ _ J (lv_sub hl [2, 3, 1, 0] rfl) hf
set_option maxHeartbeats 4000000 in
theorem tX4_setCount {a1_ : Int32} {a2_ : Int32}  {σ u : zSt} {r : Unit} (hf : fX4_setCount ln N M a1_ a2_ σ = some (r, u)) : zMv l yX4_setCount cX4_setCount 3 none (0) D cy shC ad ts ln [.ref (ad 4), .int a1_, .int a2_] σ u := by
  refine zM_of (by decide) (Nat.le_of_ble_eq_true rfl) (fun p e s m args below meth c ls ha X J hl => ?_)
  have hx := X.1
  have hb := X.2.1
  have hl : lv_has ls 3 [(0, .ref (ad 4)), (1, .int a1_), (2, .int a2_)] := hl
  generalize s.heap = H at J ⊢
  generalize ([] : List Loc) = locs at J ⊢
  show W p l e (zRm (0)) s m args below meth c H locs 0 0 (zQv D cy shC ad ts ln below args s (r, u)) (F0 m 0 ls [])
  unfold fX4_setCount at hf
  refine lv_iload_n hx hb dX4_setCount_0 rfl (lv_at hl 1 rfl) ?_
  refine lv_if_lt hx hb dX4_setCount_1 rfl (fun h => ?_) (fun h => ?_)
  · have hf := itp h hf
    exact zr_vret X J hf dX4_setCount_19
  · have hf := itn h hf
    refine lv_iload_n hx hb dX4_setCount_4 rfl (lv_at hl 1 rfl) ?_
    refine lv_aload_n hx hb dX4_setCount_5 rfl (lv_at hl 0 rfl) ?_
    refine gf_X4_26 X J dX4_setCount_6 ?_
    refine lv_icmp_ge hx hb dX4_setCount_9 rfl (fun h => ?_) (fun h => ?_)
    · have hf := itp h hf
      exact zr_vret X J hf dX4_setCount_19
    · have hf := itn h hf
      refine lv_aload_n hx hb dX4_setCount_12 rfl (lv_at hl 0 rfl) ?_
      refine gf_X4_20 X J dX4_setCount_13 ?_
      refine lv_iload_n hx hb dX4_setCount_16 rfl (lv_at hl 1 rfl) ?_
      refine lv_iload_n hx hb dX4_setCount_17 rfl (lv_at hl 2 rfl) ?_
      obtain ⟨hin, hf⟩ := itx hf
      refine as_X4_X4f3 X J hin dX4_setCount_18 (fun σ1 H locs eq J => ?_)
      have hf := bnd_eq eq hf
      clear eq
      exact zr_vret X J hf dX4_setCount_19
set_option maxHeartbeats 4000000 in
theorem tX9_setA {q_ : Nat} (hq_ : q_ = 11 ∨ q_ = 12) {a1_ : Int32} {a2_ : Int32}  {σ u : zSt} {r : Unit} (hf : fX9_setA ln N M q_ a1_ a2_ σ = some (r, u)) : zMv l yX9_setA cX9_setA 3 none (0) D cy shC ad ts ln [.ref (ad q_), .int a1_, .int a2_] σ u := by
  refine zM_of (by decide) (Nat.le_of_ble_eq_true rfl) (fun p e s m args below meth c ls ha X J hl => ?_)
  have hx := X.1
  have hb := X.2.1
  have hl : lv_has ls 3 [(0, .ref (ad q_)), (1, .int a1_), (2, .int a2_)] := hl
  generalize s.heap = H at J ⊢
  generalize ([] : List Loc) = locs at J ⊢
  show W p l e (zRm (0)) s m args below meth c H locs 0 0 (zQv D cy shC ad ts ln below args s (r, u)) (F0 m 0 ls [])
  unfold fX9_setA at hf
  refine lv_iload_n hx hb dX9_setA_0 rfl (lv_at hl 1 rfl) ?_
  refine lv_if_lt hx hb dX9_setA_1 rfl (fun h => ?_) (fun h => ?_)
  · have hf := itp h hf
    exact zr_vret X J hf dX9_setA_19
  · have hf := itn h hf
    refine lv_iload_n hx hb dX9_setA_4 rfl (lv_at hl 1 rfl) ?_
    refine lv_aload_n hx hb dX9_setA_5 rfl (lv_at hl 0 rfl) ?_
    refine gf_X9_28 hq_ X J dX9_setA_6 ?_
    refine lv_icmp_ge hx hb dX9_setA_9 rfl (fun h => ?_) (fun h => ?_)
    · have hf := itp h hf
      exact zr_vret X J hf dX9_setA_19
    · have hf := itn h hf
      refine lv_aload_n hx hb dX9_setA_12 rfl (lv_at hl 0 rfl) ?_
      refine gf_X9_13 hq_ X J dX9_setA_13 ?_
      refine lv_iload_n hx hb dX9_setA_16 rfl (lv_at hl 1 rfl) ?_
      refine lv_iload_n hx hb dX9_setA_17 rfl (lv_at hl 2 rfl) ?_
      obtain ⟨hin, hf⟩ := itx hf
      refine as_X9_X9f1 hq_ X J hin dX9_setA_18 (fun σ1 H locs eq J => ?_)
      have hf := bnd_eq eq hf
      clear eq
      exact zr_vret X J hf dX9_setA_19
set_option maxHeartbeats 4000000 in
theorem tX0_set {q_ : Nat} (hq_ : q_ = 13 ∨ q_ = 14) {a1_ : Int32} {a2_ : Int32}  {σ u : zSt} {r : Unit} (hf : fX0_set ln N M q_ a1_ a2_ σ = some (r, u)) : zMv l yX0_set cX0_set 3 none (0) D cy shC ad ts ln [.ref (ad q_), .int a1_, .int a2_] σ u := by
  refine zM_of (by decide) (Nat.le_of_ble_eq_true rfl) (fun p e s m args below meth c ls ha X J hl => ?_)
  have hx := X.1
  have hb := X.2.1
  have hl : lv_has ls 3 [(0, .ref (ad q_)), (1, .int a1_), (2, .int a2_)] := hl
  generalize s.heap = H at J ⊢
  generalize ([] : List Loc) = locs at J ⊢
  show W p l e (zRm (0)) s m args below meth c H locs 0 0 (zQv D cy shC ad ts ln below args s (r, u)) (F0 m 0 ls [])
  unfold fX0_set at hf
  refine lv_iload_n hx hb dX0_set_0 rfl (lv_at hl 1 rfl) ?_
  refine lv_if_lt hx hb dX0_set_1 rfl (fun h => ?_) (fun h => ?_)
  · have hf := itp h hf
    exact zr_vret X J hf dX0_set_20
  · have hf := itn h hf
    refine lv_iload_n hx hb dX0_set_4 rfl (lv_at hl 1 rfl) ?_
    refine lv_aload_n hx hb dX0_set_5 rfl (lv_at hl 0 rfl) ?_
    refine gf_X0_7 hq_ X J dX0_set_6 ?_
    refine an_X0_X0f0 hq_ X J dX0_set_9 ?_
    refine lv_icmp_ge hx hb dX0_set_10 rfl (fun h => ?_) (fun h => ?_)
    · have hf := itp h hf
      exact zr_vret X J hf dX0_set_20
    · have hf := itn h hf
      refine lv_aload_n hx hb dX0_set_13 rfl (lv_at hl 0 rfl) ?_
      refine gf_X0_7 hq_ X J dX0_set_14 ?_
      refine lv_iload_n hx hb dX0_set_17 rfl (lv_at hl 1 rfl) ?_
      refine lv_iload_n hx hb dX0_set_18 rfl (lv_at hl 2 rfl) ?_
      obtain ⟨hin, hf⟩ := itx hf
      refine as_X0_X0f0 hq_ X J hin dX0_set_19 (fun σ1 H locs eq J => ?_)
      have hf := bnd_eq eq hf
      clear eq
      exact zr_vret X J hf dX0_set_20
set_option maxHeartbeats 4000000 in
theorem bX0_addWith_36 {o : Unit × zSt} {q_ : Nat} (hq_ : q_ = 13 ∨ q_ = 14) (X : zX p s m args meth c D cy shC ad ts cX0_addWith 3 none RX0)    {σ : zSt} {H : Heap} {locs : List Loc} {ls : Array Slot} (J : zJ D cy shC ad ln s σ H locs) (hl : lv_has ls 3 [(0, .ref (ad q_))]) (hf : fX0_addWith_b36 ln N M q_   σ = some o) : W p l e (zRm (0)) s m args below meth c H locs 0 0 (zQv D cy shC ad ts ln below args s o) (F0 m 36 ls []) := by
  have hx := X.1
  have hb := X.2.1
  unfold fX0_addWith_b36 at hf
  refine lv_aload_n hx hb dX0_addWith_36 rfl (lv_at hl 0 rfl) ?_
  refine lv_dup hx hb dX0_addWith_37 rfl ?_
  refine gf_X0_13 hq_ X J dX0_addWith_38 ?_
  refine lv_iconst (v := (2 : Int32)) hx hb dX0_addWith_41 (by decide) ?_
  refine lv_iadd hx hb dX0_addWith_42 ?_
  refine pf_X0_13 hq_ X J dX0_addWith_43 (fun σ1 H locs eq J => ?_)
  have hf := bnd_eq eq hf
  clear eq
  exact zr_vret X J hf dX0_addWith_46
set_option maxHeartbeats 4000000 in
theorem tX0_addWith {q_ : Nat} (hq_ : q_ = 13 ∨ q_ = 14) {a1_ : Int32} {a2_ : Int32}  {σ u : zSt} {r : Unit} (hf : fX0_addWith ln N M q_ a1_ a2_ σ = some (r, u)) : zMv l yX0_addWith cX0_addWith 3 none (0) D cy shC ad ts ln [.ref (ad q_), .int a1_, .int a2_] σ u := by
  refine zM_of (by decide) (Nat.le_of_ble_eq_true rfl) (fun p e s m args below meth c ls ha X J hl => ?_)
  have hx := X.1
  have hb := X.2.1
  have hl : lv_has ls 3 [(0, .ref (ad q_)), (1, .int a1_), (2, .int a2_)] := hl
  generalize s.heap = H at J ⊢
  generalize ([] : List Loc) = locs at J ⊢
  show W p l e (zRm (0)) s m args below meth c H locs 0 0 (zQv D cy shC ad ts ln below args s (r, u)) (F0 m 0 ls [])
  unfold fX0_addWith at hf
  refine lv_aload_n hx hb dX0_addWith_0 rfl (lv_at hl 0 rfl) ?_
  refine gf_X0_13 hq_ X J dX0_addWith_1 ?_
  refine lv_aload_n hx hb dX0_addWith_4 rfl (lv_at hl 0 rfl) ?_
  refine gf_X0_7 hq_ X J dX0_addWith_5 ?_
  refine an_X0_X0f0 hq_ X J dX0_addWith_8 ?_
  refine lv_iconst (v := (1 : Int32)) hx hb dX0_addWith_9 (by decide) ?_
  refine lv_isub hx hb dX0_addWith_10 ?_
  refine lv_icmp_ge hx hb dX0_addWith_11 rfl (fun h => ?_) (fun h => ?_)
  · have hf := itp h hf
    exact bX0_addWith_36 hq_ X   J (lv_sub hl [0] rfl) hf
  · have hf := itn h hf
    refine lv_aload_n hx hb dX0_addWith_14 rfl (lv_at hl 0 rfl) ?_
    refine gf_X0_7 hq_ X J dX0_addWith_15 ?_
    refine lv_aload_n hx hb dX0_addWith_18 rfl (lv_at hl 0 rfl) ?_
    refine gf_X0_13 hq_ X J dX0_addWith_19 ?_
    refine lv_iload_n hx hb dX0_addWith_22 rfl (lv_at hl 1 rfl) ?_
    obtain ⟨hin, hf⟩ := itx hf
    refine as_X0_X0f0 hq_ X J hin dX0_addWith_23 (fun σ2 H locs eq J => ?_)
    have hf := bnd_eq eq hf
    clear eq
    refine lv_aload_n hx hb dX0_addWith_24 rfl (lv_at hl 0 rfl) ?_
    refine gf_X0_7 hq_ X J dX0_addWith_25 ?_
    refine lv_aload_n hx hb dX0_addWith_28 rfl (lv_at hl 0 rfl) ?_
    refine gf_X0_13 hq_ X J dX0_addWith_29 ?_
    refine lv_iconst (v := (1 : Int32)) hx hb dX0_addWith_32 (by decide) ?_
    refine lv_iadd hx hb dX0_addWith_33 ?_
    refine lv_iload_n hx hb dX0_addWith_34 rfl (lv_at hl 2 rfl) ?_
    obtain ⟨hin, hf⟩ := itx hf
    refine as_X0_X0f0 hq_ X J hin dX0_addWith_35 (fun σ3 H locs eq J => ?_)
    have hf := bnd_eq eq hf
    clear eq
    exact bX0_addWith_36 hq_ X   J (lv_sub hl [0] rfl) hf
set_option maxHeartbeats 4000000 in
theorem bX6_openFunction_135 {o : Unit × zSt} (X : zX p s m args meth c D cy shC ad ts cX6_openFunction 7 none RX6)    {σ : zSt} {H : Heap} {locs : List Loc} {ls : Array Slot} (J : zJ D cy shC ad ln s σ H locs) (hl : lv_has ls 7 [(0, .ref (ad 2))]) (hf : fX6_openFunction_b135 ln N M   σ = some o) : W p l e (zRm (4)) s m args below meth c H locs 0 0 (zQv D cy shC ad ts ln below args s o) (F0 m 135 ls []) := by
  have hx := X.1
  have hb := X.2.1
  unfold fX6_openFunction_b135 at hf
  refine lv_aload_n hx hb dX6_openFunction_135 rfl (lv_at hl 0 rfl) ?_
  refine lv_iconst (v := (0 : Int32)) hx hb dX6_openFunction_136 (by decide) ?_
  refine pf_X6_190 X J dX6_openFunction_137 (fun σ20 H locs eq J => ?_)
  have hf := bnd_eq eq hf
  clear eq
  refine lv_aload_n hx hb dX6_openFunction_140 rfl (lv_at hl 0 rfl) ?_
  refine lv_iconst (v := (0 : Int32)) hx hb dX6_openFunction_141 (by decide) ?_
  refine pf_X6_193 X J dX6_openFunction_142 (fun σ21 H locs eq J => ?_)
  have hf := bnd_eq eq hf
  clear eq
  refine lv_aload_n hx hb dX6_openFunction_145 rfl (lv_at hl 0 rfl) ?_
  obtain ⟨q22, hq22, er, hf⟩ := rbd_some hf
  refine gf_X6_51 X J er dX6_openFunction_146 ?_
  refine lv_bipush (v := (37 : Int32)) hx hb dX6_openFunction_149 (by decide) ?_
  refine lv_iconst (v := (0 : Int32)) hx hb dX6_openFunction_151 (by decide) ?_
  obtain ⟨r23, σ24, hc, hf⟩ := obd_some hf
  refine zr_callNv (As := [.int (37 : Int32), .int (0 : Int32)]) (rest := []) X J q22 (ho_C_X0 hq22).1 (ho_C_X0 hq22).2.1 (ho_C_X0 hq22).2.2 yy_X0_addWith mw_methodLinkNest_TinyCReader_196_TinyCCode_addWith_IIV_TinyC (d := 0) (zR_ok (by omega) (by decide)) hl.1 rfl (Nat.le_of_ble_eq_true rfl) (tX0_addWith hq22 hc) dX6_openFunction_152 (fun H locs J => ?_)
  refine lv_aload_n hx hb dX6_openFunction_155 rfl (lv_at hl 0 rfl) ?_
  refine gf_X6_21 X J dX6_openFunction_156 ?_
  refine lv_bipush (v := (51 : Int32)) hx hb dX6_openFunction_159 (by decide) ?_
  obtain ⟨r25, σ26, hc, hf⟩ := obd_some hf
  refine zr_callNv (As := [.int (51 : Int32)]) (rest := []) X J 1 ho_C_X7.1 ho_C_X7.2.1 ho_C_X7.2.2 yy_X7_need mw_methodLinkNest_TinyCReader_109_TinyCScan_need_IV_TinyC (d := 1) (zR_ok (by omega) (by decide)) hl.1 rfl (Nat.le_of_ble_eq_true rfl) (tX7_need  hc) dX6_openFunction_161 (fun H locs J => ?_)
  refine lv_aload_n hx hb dX6_openFunction_164 rfl (lv_at hl 0 rfl) ?_
  refine gf_X6_9 X J dX6_openFunction_165 ?_
  obtain ⟨r27, σ28, hc, hf⟩ := obd_some hf
  refine zr_callNv (As := []) (rest := []) X J 3 ho_C_X1.1 ho_C_X1.2.1 ho_C_X1.2.2 yy_X1_enter mw_methodLinkNest_TinyCReader_199_TinyCDesk_enter_V_TinyC (d := 1) (zR_ok (by omega) (by decide)) hl.1 rfl (Nat.le_of_ble_eq_true rfl) (tX1_enter  hc) dX6_openFunction_168 (fun H locs J => ?_)
  exact zr_vret X J hf dX6_openFunction_171
set_option maxHeartbeats 4000000 in
theorem tX6_openFunction {a1_ : Int64} {a3_ : Int32}  {σ u : zSt} {r : Unit} (hf : fX6_openFunction ln N M a1_ a3_ σ = some (r, u)) : zMv l yX6_openFunction cX6_openFunction 7 none (4) D cy shC ad ts ln [.ref (ad 2), .long a1_, .int a3_] σ u := by
  refine zM_of (by decide) (Nat.le_of_ble_eq_true rfl) (fun p e s m args below meth c ls ha X J hl => ?_)
  have hx := X.1
  have hb := X.2.1
  have hl : lv_has ls 7 [(0, .ref (ad 2)), (1, .long a1_), (3, .int a3_)] := hl
  generalize s.heap = H at J ⊢
  generalize ([] : List Loc) = locs at J ⊢
  show W p l e (zRm (4)) s m args below meth c H locs 0 0 (zQv D cy shC ad ts ln below args s (r, u)) (F0 m 0 ls [])
  unfold fX6_openFunction at hf
  refine lv_aload_n hx hb dX6_openFunction_0 rfl (lv_at hl 0 rfl) ?_
  refine gf_X6_9 X J dX6_openFunction_1 ?_
  refine lv_iload_n hx hb dX6_openFunction_4 rfl (lv_at hl 2 rfl) ?_
  obtain ⟨r1, σ2, hc, hf⟩ := obd_some hf
  refine zr_callNv (As := [.int a3_]) (rest := []) X J 3 ho_C_X1.1 ho_C_X1.2.1 ho_C_X1.2.2 yy_X1_takeCells mw_methodLinkNest_TinyCReader_159_TinyCDesk_takeCells_IV_TinyC (d := 1) (zR_ok (by omega) (by decide)) hl.1 rfl (Nat.le_of_ble_eq_true rfl) (tX1_takeCells  hc) dX6_openFunction_5 (fun H locs J => ?_)
  refine lv_aload_n hx hb dX6_openFunction_8 rfl (lv_at hl 0 rfl) ?_
  obtain ⟨q3, hq3, er, hf⟩ := rbd_some hf
  refine gf_X6_51 X J er dX6_openFunction_9 ?_
  refine gf_X6_162 hq3 X J dX6_openFunction_12 ?_
  refine lv_topi (fun x4 eq => ?_)
  have hf := bnd_eq eq hf
  clear eq
  refine lv_istore hx hb dX6_openFunction_15 hl (by decide) rfl (fun ls hl => ?_)
  have hl : lv_has ls 7 [(4, .int x4), (0, .ref (ad 2)), (1, .long a1_), (3, .int a3_)] := hl
  refine lv_aload_n hx hb dX6_openFunction_17 rfl (lv_at hl 1 rfl) ?_
  refine lv_aload_n hx hb dX6_openFunction_18 rfl (lv_at hl 1 rfl) ?_
  refine gf_X6_26 X J dX6_openFunction_19 ?_
  refine gf_X6_163 X J dX6_openFunction_22 ?_
  refine pf_X6_164 X J dX6_openFunction_25 (fun σ5 H locs eq J => ?_)
  have hf := bnd_eq eq hf
  clear eq
  refine lv_aload_n hx hb dX6_openFunction_28 rfl (lv_at hl 1 rfl) ?_
  obtain ⟨q6, hq6, er, hf⟩ := rbd_some hf
  refine gf_X6_46 X J er dX6_openFunction_29 ?_
  refine lv_bipush (v := (19 : Int32)) hx hb dX6_openFunction_32 (by decide) ?_
  refine lv_iconst (v := (0 : Int32)) hx hb dX6_openFunction_34 (by decide) ?_
  refine lv_iconst (v := (-1 : Int32)) hx hb dX6_openFunction_35 (by decide) ?_
  refine lv_iconst (v := (0 : Int32)) hx hb dX6_openFunction_36 (by decide) ?_
  obtain ⟨r7, σ8, hc, hf⟩ := obd_some hf
  refine zr_callNi (As := [.int (19 : Int32), .int (0 : Int32), .int (-1 : Int32), .int (0 : Int32)]) (rest := []) X J q6 (ho_C_X9 hq6).1 (ho_C_X9 hq6).2.1 (ho_C_X9 hq6).2.2 yy_X9_add mw_methodLinkNest_TinyCReader_169_TinyCTree_add_IIIII_TinyC (d := 0) (zR_ok (by omega) (by decide)) hl.1 rfl (Nat.le_of_ble_eq_true rfl) (tX9_add hq6 hc) dX6_openFunction_37 (fun H locs J => ?_)
  refine lv_istore hx hb dX6_openFunction_40 hl (by decide) rfl (fun ls hl => ?_)
  have hl : lv_has ls 7 [(5, .int r7), (4, .int x4), (0, .ref (ad 2)), (1, .long a1_), (3, .int a3_)] := hl
  refine lv_aload_n hx hb dX6_openFunction_42 rfl (lv_at hl 2 rfl) ?_
  refine gf_X6_26 X J dX6_openFunction_43 ?_
  refine lv_lload_n hx hb dX6_openFunction_46 rfl (lv_at hl 3 rfl) ?_
  refine lv_iconst (v := (2 : Int32)) hx hb dX6_openFunction_47 (by decide) ?_
  refine lv_iload hx hb dX6_openFunction_48 (lv_at hl 1 rfl) ?_
  refine lv_iconst (v := (0 : Int32)) hx hb dX6_openFunction_50 (by decide) ?_
  obtain ⟨r9, σ10, hc, hf⟩ := obd_some hf
  refine zr_callNv (As := [.long a1_, .int (2 : Int32), .int x4, .int (0 : Int32)]) (rest := []) X J 4 ho_C_X4.1 ho_C_X4.2.1 ho_C_X4.2.2 yy_X4_add mw_methodLinkNest_TinyCReader_151_TinyCNames_add_JIIIV_TinyC (d := 0) (zR_ok (by omega) (by decide)) hl.1 rfl (Nat.le_of_ble_eq_true rfl) (tX4_add  hc) dX6_openFunction_51 (fun H locs J => ?_)
  refine lv_aload_n hx hb dX6_openFunction_54 rfl (lv_at hl 2 rfl) ?_
  refine gf_X6_26 X J dX6_openFunction_55 ?_
  refine lv_aload_n hx hb dX6_openFunction_58 rfl (lv_at hl 2 rfl) ?_
  refine gf_X6_164 X J dX6_openFunction_59 ?_
  refine lv_iload hx hb dX6_openFunction_62 (lv_at hl 0 rfl) ?_
  obtain ⟨r11, σ12, hc, hf⟩ := obd_some hf
  refine zr_callNv (As := [.int (zI σ10 2 7), .int r7]) (rest := []) X J 4 ho_C_X4.1 ho_C_X4.2.1 ho_C_X4.2.2 yy_X4_setNode mw_methodLinkNest_TinyCReader_172_TinyCNames_setNode_IIV_TinyC (d := 0) (zR_ok (by omega) (by decide)) hl.1 rfl (Nat.le_of_ble_eq_true rfl) (tX4_setNode  hc) dX6_openFunction_64 (fun H locs J => ?_)
  refine lv_aload_n hx hb dX6_openFunction_67 rfl (lv_at hl 2 rfl) ?_
  refine lv_aload_n hx hb dX6_openFunction_68 rfl (lv_at hl 2 rfl) ?_
  refine gf_X6_164 X J dX6_openFunction_69 ?_
  refine lv_iconst (v := (1 : Int32)) hx hb dX6_openFunction_72 (by decide) ?_
  refine lv_iadd hx hb dX6_openFunction_73 ?_
  obtain ⟨r13, σ14, hc, hf⟩ := obd_some hf
  refine zr_calli (As := [.int ((zI σ12 2 7) + (1 : Int32))]) (rest := []) X J 2 ho_C_X6.1 ho_C_X6.2.1 ho_C_X6.2.2 yy_X6_parameters mw_methodLink_TinyCReader_175_TinyCReader_parameters_II (d := 3) (zR_ok (by omega) (by decide)) hl.1 rfl (Nat.le_of_ble_eq_true rfl) (tX6_parameters  hc) dX6_openFunction_74 (fun H locs J => ?_)
  refine lv_istore hx hb dX6_openFunction_77 hl (by decide) rfl (fun ls hl => ?_)
  have hl : lv_has ls 7 [(6, .int r13), (5, .int r7), (4, .int x4), (0, .ref (ad 2)), (1, .long a1_), (3, .int a3_)] := hl
  refine lv_aload_n hx hb dX6_openFunction_79 rfl (lv_at hl 3 rfl) ?_
  refine gf_X6_26 X J dX6_openFunction_80 ?_
  refine lv_aload_n hx hb dX6_openFunction_83 rfl (lv_at hl 3 rfl) ?_
  refine gf_X6_164 X J dX6_openFunction_84 ?_
  refine lv_iload hx hb dX6_openFunction_87 (lv_at hl 0 rfl) ?_
  obtain ⟨r15, σ16, hc, hf⟩ := obd_some hf
  refine zr_callNv (As := [.int (zI σ14 2 7), .int r13]) (rest := []) X J 4 ho_C_X4.1 ho_C_X4.2.1 ho_C_X4.2.2 yy_X4_setCount mw_methodLinkNest_TinyCReader_179_TinyCNames_setCount_IIV_TinyC (d := 0) (zR_ok (by omega) (by decide)) hl.1 rfl (Nat.le_of_ble_eq_true rfl) (tX4_setCount  hc) dX6_openFunction_89 (fun H locs J => ?_)
  refine lv_aload_n hx hb dX6_openFunction_92 rfl (lv_at hl 3 rfl) ?_
  obtain ⟨q17, hq17, er, hf⟩ := rbd_some hf
  refine gf_X6_46 X J er dX6_openFunction_93 ?_
  refine lv_iload hx hb dX6_openFunction_96 (lv_at hl 1 rfl) ?_
  refine lv_iload hx hb dX6_openFunction_98 (lv_at hl 0 rfl) ?_
  obtain ⟨r18, σ19, hc, hf⟩ := obd_some hf
  refine zr_callNv (As := [.int r7, .int r13]) (rest := []) X J q17 (ho_C_X9 hq17).1 (ho_C_X9 hq17).2.1 (ho_C_X9 hq17).2.2 yy_X9_setA mw_methodLinkNest_TinyCReader_182_TinyCTree_setA_IIV_TinyC (d := 0) (zR_ok (by omega) (by decide)) hl.1 rfl (Nat.le_of_ble_eq_true rfl) (tX9_setA hq17 hc) dX6_openFunction_100 (fun H locs J => ?_)
  refine lv_lload_n hx hb dX6_openFunction_103 rfl (lv_at hl 4 rfl) ?_
  refine lv_ldc2 (v := (1835100526 : Int64)) hx hb X.2.2.2.1 (X.2.2.2.2.1 _ mw_constantLong_TinyCReader_185) dX6_openFunction_104 ?_
  refine W.lcmp hx hb dX6_openFunction_107 ?_
  refine lv_if_ne hx hb dX6_openFunction_108 rfl (fun h => ?_) (fun h => ?_)
  · have hf := itn h hf
    exact bX6_openFunction_135 X   J (lv_sub hl [3] rfl) hf
  · have hf := itp h hf
    refine lv_iload hx hb dX6_openFunction_111 (lv_at hl 0 rfl) ?_
    refine lv_if_ne hx hb dX6_openFunction_113 rfl (fun h => ?_) (fun h => ?_)
    · have hf := itn h hf
      exact bX6_openFunction_135 X   J (lv_sub hl [3] rfl) hf
    · have hf := itp h hf
      refine lv_aload_n hx hb dX6_openFunction_116 rfl (lv_at hl 3 rfl) ?_
      obtain ⟨q29, hq29, er, hf⟩ := rbd_some hf
      refine gf_X6_36 X J er dX6_openFunction_117 ?_
      refine lv_iload hx hb dX6_openFunction_120 (lv_at hl 1 rfl) ?_
      refine pf_X6_118 hq29 X J dX6_openFunction_122 (fun σ30 H locs eq J => ?_)
      have hf := bnd_eq eq hf
      clear eq
      refine lv_aload_n hx hb dX6_openFunction_125 rfl (lv_at hl 3 rfl) ?_
      obtain ⟨q31, hq31, er, hf⟩ := rbd_some hf
      refine gf_X6_51 X J er dX6_openFunction_126 ?_
      refine lv_iconst (v := (1 : Int32)) hx hb dX6_openFunction_129 (by decide) ?_
      refine lv_iload hx hb dX6_openFunction_130 (lv_at hl 2 rfl) ?_
      obtain ⟨r32, σ33, hc, hf⟩ := obd_some hf
      refine zr_callNv (As := [.int (1 : Int32), .int x4]) (rest := []) X J q31 (ho_C_X0 hq31).1 (ho_C_X0 hq31).2.1 (ho_C_X0 hq31).2.2 yy_X0_set mw_methodLinkNest_TinyCReader_187_TinyCCode_set_IIV_TinyC (d := 0) (zR_ok (by omega) (by decide)) hl.1 rfl (Nat.le_of_ble_eq_true rfl) (tX0_set hq31 hc) dX6_openFunction_132 (fun H locs J => ?_)
      exact bX6_openFunction_135 X   J (lv_sub hl [3] rfl) hf
set_option maxHeartbeats 4000000 in
theorem tX2_push {a1_ : Int32} {a2_ : Int32} {a3_ : Int32}  {σ u : zSt} {r : Unit} (hf : fX2_push ln N M a1_ a2_ a3_ σ = some (r, u)) : zMv l yX2_push cX2_push 4 none (0) D cy shC ad ts ln [.ref (ad 5), .int a1_, .int a2_, .int a3_] σ u := by
  refine zM_of (by decide) (Nat.le_of_ble_eq_true rfl) (fun p e s m args below meth c ls ha X J hl => ?_)
  have hx := X.1
  have hb := X.2.1
  have hl : lv_has ls 4 [(0, .ref (ad 5)), (1, .int a1_), (2, .int a2_), (3, .int a3_)] := hl
  generalize s.heap = H at J ⊢
  generalize ([] : List Loc) = locs at J ⊢
  show W p l e (zRm (0)) s m args below meth c H locs 0 0 (zQv D cy shC ad ts ln below args s (r, u)) (F0 m 0 ls [])
  unfold fX2_push at hf
  refine lv_aload_n hx hb dX2_push_0 rfl (lv_at hl 0 rfl) ?_
  refine gf_X2_49 X J dX2_push_1 ?_
  refine lv_aload_n hx hb dX2_push_4 rfl (lv_at hl 0 rfl) ?_
  refine gf_X2_27 X J dX2_push_5 ?_
  refine an_X2_X2f3 X J dX2_push_8 ?_
  refine lv_icmp_ge hx hb dX2_push_9 rfl (fun h => ?_) (fun h => ?_)
  · have hf := itp h hf
    exact zr_vret X J hf dX2_push_52
  · have hf := itn h hf
    refine lv_aload_n hx hb dX2_push_12 rfl (lv_at hl 0 rfl) ?_
    refine gf_X2_27 X J dX2_push_13 ?_
    refine lv_aload_n hx hb dX2_push_16 rfl (lv_at hl 0 rfl) ?_
    refine gf_X2_49 X J dX2_push_17 ?_
    refine lv_iload_n hx hb dX2_push_20 rfl (lv_at hl 1 rfl) ?_
    obtain ⟨hin, hf⟩ := itx hf
    refine as_X2_X2f3 X J hin dX2_push_21 (fun σ1 H locs eq J => ?_)
    have hf := bnd_eq eq hf
    clear eq
    refine lv_aload_n hx hb dX2_push_22 rfl (lv_at hl 0 rfl) ?_
    refine gf_X2_31 X J dX2_push_23 ?_
    refine lv_aload_n hx hb dX2_push_26 rfl (lv_at hl 0 rfl) ?_
    refine gf_X2_49 X J dX2_push_27 ?_
    refine lv_iload_n hx hb dX2_push_30 rfl (lv_at hl 2 rfl) ?_
    obtain ⟨hin, hf⟩ := itx hf
    refine as_X2_X2f4 X J hin dX2_push_31 (fun σ2 H locs eq J => ?_)
    have hf := bnd_eq eq hf
    clear eq
    refine lv_aload_n hx hb dX2_push_32 rfl (lv_at hl 0 rfl) ?_
    refine gf_X2_34 X J dX2_push_33 ?_
    refine lv_aload_n hx hb dX2_push_36 rfl (lv_at hl 0 rfl) ?_
    refine gf_X2_49 X J dX2_push_37 ?_
    refine lv_iload_n hx hb dX2_push_40 rfl (lv_at hl 3 rfl) ?_
    obtain ⟨hin, hf⟩ := itx hf
    refine as_X2_X2f5 X J hin dX2_push_41 (fun σ3 H locs eq J => ?_)
    have hf := bnd_eq eq hf
    clear eq
    refine lv_aload_n hx hb dX2_push_42 rfl (lv_at hl 0 rfl) ?_
    refine lv_dup hx hb dX2_push_43 rfl ?_
    refine gf_X2_49 X J dX2_push_44 ?_
    refine lv_iconst (v := (1 : Int32)) hx hb dX2_push_47 (by decide) ?_
    refine lv_iadd hx hb dX2_push_48 ?_
    refine pf_X2_49 X J dX2_push_49 (fun σ4 H locs eq J => ?_)
    have hf := bnd_eq eq hf
    clear eq
    exact zr_vret X J hf dX2_push_52
set_option maxHeartbeats 4000000 in
theorem bX2_openOnes_32 {o : Unit × zSt} (X : zX p s m args meth c D cy shC ad ts cX2_openOnes 3 none RX2) {k2 : Int32 → zSt → Option (Unit × zSt)} (hk2 : ∀ (x1_ : Int32) (σ : zSt) (H : Heap) (locs : List Loc) (ls : Array Slot), zJ D cy shC ad ln s σ H locs → lv_has ls 3 [(0, .ref (ad 5)), (1, .int x1_)] → k2 x1_ σ = some o → W p l e (zRm (2)) s m args below meth c H locs 0 0 (zQv D cy shC ad ts ln below args s o) (F0 m 2 ls [])) {x1_ : Int32} {s0_ : Int32}  {σ : zSt} {H : Heap} {locs : List Loc} {ls : Array Slot} (J : zJ D cy shC ad ln s σ H locs) (hl : lv_has ls 3 [(0, .ref (ad 5)), (1, .int x1_)]) (hf : fX2_openOnes_b32 ln N M k2 x1_ s0_ σ = some o) : W p l e (zRm (2)) s m args below meth c H locs 0 0 (zQv D cy shC ad ts ln below args s o) (F0 m 32 ls [.int s0_]) := by
  have hx := X.1
  have hb := X.2.1
  unfold fX2_openOnes_b32 at hf
  refine lv_istore_n hx hb dX2_openOnes_32 rfl hl (by decide) rfl (fun ls hl => ?_)
  have hl : lv_has ls 3 [(2, .int s0_), (0, .ref (ad 5)), (1, .int x1_)] := hl
  refine lv_iload_n hx hb dX2_openOnes_33 rfl (lv_at hl 0 rfl) ?_
  refine lv_bipush (v := (24 : Int32)) hx hb dX2_openOnes_34 (by decide) ?_
  refine lv_icmp_lt hx hb dX2_openOnes_36 rfl (fun h => ?_) (fun h => ?_)
  · have hf := itp h hf
    exact zr_vret X J hf dX2_openOnes_45
  · have hf := itn h hf
    refine lv_iload_n hx hb dX2_openOnes_39 rfl (lv_at hl 0 rfl) ?_
    refine lv_bipush (v := (26 : Int32)) hx hb dX2_openOnes_40 (by decide) ?_
    refine lv_icmp_le hx hb dX2_openOnes_42 rfl (fun h => ?_) (fun h => ?_)
    · have hf := itp h hf
      refine lv_aload_n hx hb dX2_openOnes_46 rfl (lv_at hl 1 rfl) ?_
      refine gf_X2_9 X J dX2_openOnes_47 ?_
      obtain ⟨r2, σ3, hc, hf⟩ := obd_some hf
      refine zr_callNv (As := []) (rest := []) X J 3 ho_C_X1.1 ho_C_X1.2.1 ho_C_X1.2.2 yy_X1_enter mw_methodLinkNest_TinyCExpressions_96_TinyCDesk_enter_V_TinyC (d := 1) (zR_ok (by omega) (by decide)) hl.1 rfl (Nat.le_of_ble_eq_true rfl) (tX1_enter  hc) dX2_openOnes_50 (fun H locs J => ?_)
      refine lv_aload_n hx hb dX2_openOnes_53 rfl (lv_at hl 1 rfl) ?_
      refine gf_X2_9 X J dX2_openOnes_54 ?_
      refine lv_aload_n hx hb dX2_openOnes_57 rfl (lv_at hl 1 rfl) ?_
      refine gf_X2_21 X J dX2_openOnes_58 ?_
      refine gf_X2_99 X J dX2_openOnes_61 ?_
      obtain ⟨r4, σ5, hc, hf⟩ := obd_some hf
      refine zr_callNv (As := [.int (zI σ3 1 4)]) (rest := []) X J 3 ho_C_X1.1 ho_C_X1.2.1 ho_C_X1.2.2 yy_X1_takeCells mw_methodLinkNest_TinyCExpressions_102_TinyCDesk_takeCells_IV_TinyC (d := 1) (zR_ok (by omega) (by decide)) hl.1 rfl (Nat.le_of_ble_eq_true rfl) (tX1_takeCells  hc) dX2_openOnes_64 (fun H locs J => ?_)
      refine lv_aload_n hx hb dX2_openOnes_67 rfl (lv_at hl 1 rfl) ?_
      refine lv_iload_n hx hb dX2_openOnes_68 rfl (lv_at hl 0 rfl) ?_
      refine lv_iconst (v := (-1 : Int32)) hx hb dX2_openOnes_69 (by decide) ?_
      refine lv_iconst (v := (-1 : Int32)) hx hb dX2_openOnes_70 (by decide) ?_
      obtain ⟨r6, σ7, hc, hf⟩ := obd_some hf
      refine zr_callv (As := [.int s0_, .int (-1 : Int32), .int (-1 : Int32)]) (rest := []) X J 5 ho_C_X2.1 ho_C_X2.2.1 ho_C_X2.2.2 yy_X2_push mw_methodLink_TinyCExpressions_105_TinyCExpressions_push_IIIV (d := 0) (zR_ok (by omega) (by decide)) hl.1 rfl (Nat.le_of_ble_eq_true rfl) (tX2_push  hc) dX2_openOnes_71 (fun H locs J => ?_)
      refine lv_aload_n hx hb dX2_openOnes_74 rfl (lv_at hl 1 rfl) ?_
      refine gf_X2_21 X J dX2_openOnes_75 ?_
      obtain ⟨r8, σ9, hc, hf⟩ := obd_some hf
      refine zr_callNv (As := []) (rest := []) X J 1 ho_C_X7.1 ho_C_X7.2.1 ho_C_X7.2.2 yy_X7_come mw_methodLinkNest_TinyCExpressions_90_TinyCScan_come_V_TinyC (d := 1) (zR_ok (by omega) (by decide)) hl.1 rfl (Nat.le_of_ble_eq_true rfl) (tX7_come  hc) dX2_openOnes_78 (fun H locs J => ?_)
      obtain ⟨x10, eq⟩ : ∃ z, z = x1_ + (1 : Int32) := ⟨_, rfl⟩
      have hf := bnd_eq eq hf
      refine lv_iinc hx hb dX2_openOnes_81 hl (k := 2) rfl (v := x10) (by rw [eq]; rfl) (by decide) rfl (fun ls hl => ?_)
      clear eq
      have hl : lv_has ls 3 [(1, .int x10), (2, .int s0_), (0, .ref (ad 5))] := hl
      refine lv_goto hx hb dX2_openOnes_84 rfl ?_
      exact hk2 _ _ _ _ _ J (lv_sub hl [2, 0] rfl) hf
    · have hf := itn h hf
      exact zr_vret X J hf dX2_openOnes_45
set_option maxHeartbeats 4000000 in
theorem bX2_openOnes_2 {o : Unit × zSt} (X : zX p s m args meth c D cy shC ad ts cX2_openOnes 3 none RX2)  : ∀ (n : Nat) (x1_ : Int32) (σ : zSt) (H : Heap) (locs : List Loc) (ls : Array Slot), zJ D cy shC ad ln s σ H locs → lv_has ls 3 [(0, .ref (ad 5)), (1, .int x1_)] → fX2_openOnes_b2 ln N M  n x1_ σ = some o → W p l e (zRm (2)) s m args below meth c H locs 0 0 (zQv D cy shC ad ts ln below args s o) (F0 m 2 ls []) := by
  have hx := X.1
  have hb := X.2.1
  intro n
  induction n with
  | zero =>
    intro x1_ σ H locs ls J hl hf
    rw [fX2_openOnes_b2] at hf
    cases hf
  | succ n ih =>
    intro x1_ σ H locs ls J hl hf
    rw [fX2_openOnes_b2] at hf
    refine lv_iload_n hx hb dX2_openOnes_2 rfl (lv_at hl 1 rfl) ?_
    refine lv_bipush (v := (40 : Int32)) hx hb dX2_openOnes_3 (by decide) ?_
    refine lv_icmp_gt hx hb dX2_openOnes_5 rfl (fun h => ?_) (fun h => ?_)
    · have hf := itp h hf
      exact zr_vret X J hf dX2_openOnes_87
    · have hf := itn h hf
      refine lv_aload_n hx hb dX2_openOnes_8 rfl (lv_at hl 0 rfl) ?_
      refine gf_X2_21 X J dX2_openOnes_9 ?_
      refine gf_X2_76 X J dX2_openOnes_12 ?_
      refine lv_bipush (v := (22 : Int32)) hx hb dX2_openOnes_15 (by decide) ?_
      refine lv_icmp_ne hx hb dX2_openOnes_17 rfl (fun h => ?_) (fun h => ?_)
      · have hf := itn h hf
        refine lv_aload_n hx hb dX2_openOnes_25 rfl (lv_at hl 0 rfl) ?_
        refine gf_X2_21 X J dX2_openOnes_26 ?_
        refine gf_X2_76 X J dX2_openOnes_29 ?_
        exact bX2_openOnes_32 X ih  J (lv_sub hl [0, 1] rfl) hf
      · have hf := itp h hf
        refine lv_bipush (v := (24 : Int32)) hx hb dX2_openOnes_20 (by decide) ?_
        refine lv_goto hx hb dX2_openOnes_22 rfl ?_
        exact bX2_openOnes_32 X ih  J (lv_sub hl [0, 1] rfl) hf
set_option maxHeartbeats 4000000 in
theorem tX2_openOnes   {σ u : zSt} {r : Unit} (hf : fX2_openOnes ln N M  σ = some (r, u)) : zMv l yX2_openOnes cX2_openOnes 3 none (2) D cy shC ad ts ln [.ref (ad 5)] σ u := by
  refine zM_of (by decide) (Nat.le_of_ble_eq_true rfl) (fun p e s m args below meth c ls ha X J hl => ?_)
  have hx := X.1
  have hb := X.2.1
  have hl : lv_has ls 3 [(0, .ref (ad 5))] := hl
  generalize s.heap = H at J ⊢
  generalize ([] : List Loc) = locs at J ⊢
  show W p l e (zRm (2)) s m args below meth c H locs 0 0 (zQv D cy shC ad ts ln below args s (r, u)) (F0 m 0 ls [])
  unfold fX2_openOnes at hf
  refine lv_iconst (v := (0 : Int32)) hx hb dX2_openOnes_0 (by decide) ?_
  refine lv_topi (fun x1 eq => ?_)
  have hf := bnd_eq eq hf
  clear eq
  refine lv_istore_n hx hb dX2_openOnes_1 rfl hl (by decide) rfl (fun ls hl => ?_)
  have hl : lv_has ls 3 [(1, .int x1), (0, .ref (ad 5))] := hl
  exact bX2_openOnes_2 X  N _ _ _ _ _ J (lv_sub hl [1, 0] rfl) hf
end
