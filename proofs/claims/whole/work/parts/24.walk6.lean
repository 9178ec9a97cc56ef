section
variable {p : Program} {l : Launch} {e : Env} {s : State} {m : MethodId} {args : Array Value} {below : List Frame} {meth : Method} {c : Code} {D : va_G} {cy : Nat → ClassId} {ad ts : Nat → Nat} {N : Nat}
set_option maxHeartbeats 4000000 in
theorem bX12_act_429 {o : Unit × zSt} (X : zX p s m args meth c D cy shR ad ts cX12_act 4 none RX12)  {s0_ : Int32}  {σ : zSt} {H : Heap} {locs : List Loc} {ls : Array Slot} (J : zJ D cy shR ad lnR s σ H locs) (hl : lv_has ls 4 []) (hf : fX12_act_b429 N  s0_ σ = some o) : W p l e (zRm (3)) s m args below meth c H locs 0 0 (zQv D cy shR ad ts lnR below args s o) (F0 m 429 ls [.int s0_, .ref (ad 0)]) := by
  have hx := X.1
  have hb := X.2.1
  unfold fX12_act_b429 at hf
  refine pf_X12_485 X J dX12_act_429 (fun σ74 H locs eq J => ?_)
  have hf := bnd_eq eq hf
  clear eq
  refine lv_goto hx hb dX12_act_432 rfl ?_
  exact zr_vret X J hf dX12_act_442
set_option maxHeartbeats 4000000 in
theorem bX12_act_113 {o : Unit × zSt} (X : zX p s m args meth c D cy shR ad ts cX12_act 4 none RX12)  {x1_ : Int32} {x2_ : Int32} {x3_ : Int32}  {σ : zSt} {H : Heap} {locs : List Loc} {ls : Array Slot} (J : zJ D cy shR ad lnR s σ H locs) (hl : lv_has ls 4 [(0, .ref (ad 0)), (1, .int x1_), (2, .int x2_), (3, .int x3_)]) (hf : fX12_act_b113 N  x1_ x2_ x3_ σ = some o) : W p l e (zRm (3)) s m args below meth c H locs 0 0 (zQv D cy shR ad ts lnR below args s o) (F0 m 113 ls []) := by
  have hx := X.1
  have hb := X.2.1
  unfold fX12_act_b113 at hf
  refine lv_iload_n hx hb dX12_act_113 rfl (lv_at hl 1 rfl) ?_
  by_cases h0_ : x1_ = (0 : Int32)
  · have hf := itp h0_ hf
    rw [h0_]
    refine lv_tableIn hx hb dX12_act_114 (by decide) (by decide) (tgt := 256) (by rfl) (by decide) ?_
    refine lv_aload_n hx hb dX12_act_256 rfl (lv_at hl 0 rfl) ?_
    obtain ⟨r2, σ3, hc, hf⟩ := obd_some hf
    refine zr_callv (As := []) (rest := []) X J 0 ho_R_X12.1 ho_R_X12.2.1 ho_R_X12.2.2 yy_X12_ends mw_methodLink_TinyCModel_533_TinyCModel_ends_V (d := 1) (zR_ok (by omega) (by decide)) hl.1 rfl (Nat.le_of_ble_eq_true rfl) (tX12_ends  hc) dX12_act_257 (fun H locs J => ?_)
    refine lv_goto hx hb dX12_act_260 rfl ?_
    exact zr_vret X J hf dX12_act_442
  have hf := itn h0_ hf
  by_cases h1_ : x1_ = (1 : Int32)
  · have hf := itp h1_ hf
    rw [h1_]
    refine lv_tableIn hx hb dX12_act_114 (by decide) (by decide) (tgt := 263) (by rfl) (by decide) ?_
    refine lv_aload_n hx hb dX12_act_263 rfl (lv_at hl 0 rfl) ?_
    refine lv_dup hx hb dX12_act_264 rfl ?_
    refine gf_X12_485 X J dX12_act_265 ?_
    refine lv_iconst (v := (2 : Int32)) hx hb dX12_act_268 (by decide) ?_
    refine lv_iadd hx hb dX12_act_269 ?_
    refine pf_X12_485 X J dX12_act_270 (fun σ4 H locs eq J => ?_)
    have hf := bnd_eq eq hf
    clear eq
    refine lv_aload_n hx hb dX12_act_273 rfl (lv_at hl 0 rfl) ?_
    refine lv_iload_n hx hb dX12_act_274 rfl (lv_at hl 2 rfl) ?_
    obtain ⟨r5, σ6, hc, hf⟩ := obd_some hf
    refine zr_callv (As := [.int x2_]) (rest := []) X J 0 ho_R_X12.1 ho_R_X12.2.1 ho_R_X12.2.2 yy_X12_pushes mw_methodLink_TinyCModel_536_TinyCModel_pushes_IV (d := 1) (zR_ok (by omega) (by decide)) hl.1 rfl (Nat.le_of_ble_eq_true rfl) (tX12_pushes  hc) dX12_act_275 (fun H locs J => ?_)
    refine lv_goto hx hb dX12_act_278 rfl ?_
    exact zr_vret X J hf dX12_act_442
  have hf := itn h1_ hf
  by_cases h2_ : x1_ = (2 : Int32)
  · have hf := itp h2_ hf
    rw [h2_]
    refine lv_tableIn hx hb dX12_act_114 (by decide) (by decide) (tgt := 281) (by rfl) (by decide) ?_
    refine lv_aload_n hx hb dX12_act_281 rfl (lv_at hl 0 rfl) ?_
    refine lv_dup hx hb dX12_act_282 rfl ?_
    refine gf_X12_485 X J dX12_act_283 ?_
    refine lv_iconst (v := (2 : Int32)) hx hb dX12_act_286 (by decide) ?_
    refine lv_iadd hx hb dX12_act_287 ?_
    refine pf_X12_485 X J dX12_act_288 (fun σ7 H locs eq J => ?_)
    have hf := bnd_eq eq hf
    clear eq
    refine lv_aload_n hx hb dX12_act_291 rfl (lv_at hl 0 rfl) ?_
    refine lv_aload_n hx hb dX12_act_292 rfl (lv_at hl 0 rfl) ?_
    refine gf_X12_16 X J dX12_act_293 ?_
    refine lv_iload_n hx hb dX12_act_296 rfl (lv_at hl 2 rfl) ?_
    obtain ⟨hin, hf⟩ := itx hf
    refine al_X12_X12f7 X J hin dX12_act_297 ?_
    obtain ⟨r8, σ9, hc, hf⟩ := obd_some hf
    refine zr_callv (As := [.int (zA σ7 3 x2_.toNatClampNeg)]) (rest := []) X J 0 ho_R_X12.1 ho_R_X12.2.1 ho_R_X12.2.2 yy_X12_pushes mw_methodLink_TinyCModel_536_TinyCModel_pushes_IV (d := 1) (zR_ok (by omega) (by decide)) hl.1 rfl (Nat.le_of_ble_eq_true rfl) (tX12_pushes  hc) dX12_act_298 (fun H locs J => ?_)
    refine lv_goto hx hb dX12_act_301 rfl ?_
    exact zr_vret X J hf dX12_act_442
  have hf := itn h2_ hf
  by_cases h3_ : x1_ = (3 : Int32)
  · have hf := itp h3_ hf
    rw [h3_]
    refine lv_tableIn hx hb dX12_act_114 (by decide) (by decide) (tgt := 304) (by rfl) (by decide) ?_
    refine lv_aload_n hx hb dX12_act_304 rfl (lv_at hl 0 rfl) ?_
    refine lv_dup hx hb dX12_act_305 rfl ?_
    refine gf_X12_485 X J dX12_act_306 ?_
    refine lv_iconst (v := (2 : Int32)) hx hb dX12_act_309 (by decide) ?_
    refine lv_iadd hx hb dX12_act_310 ?_
    refine pf_X12_485 X J dX12_act_311 (fun σ10 H locs eq J => ?_)
    have hf := bnd_eq eq hf
    clear eq
    refine lv_aload_n hx hb dX12_act_314 rfl (lv_at hl 0 rfl) ?_
    refine gf_X12_16 X J dX12_act_315 ?_
    refine lv_iload_n hx hb dX12_act_318 rfl (lv_at hl 2 rfl) ?_
    refine lv_aload_n hx hb dX12_act_319 rfl (lv_at hl 0 rfl) ?_
    obtain ⟨r11, σ12, hc, hf⟩ := obd_some hf
    refine zr_calli (As := []) (rest := [.int x2_, .ref (ad 3)]) X J 0 ho_R_X12.1 ho_R_X12.2.1 ho_R_X12.2.2 yy_X12_top mw_methodLink_TinyCModel_539_TinyCModel_top_I (d := 0) (zR_ok (by omega) (by decide)) hl.1 rfl (Nat.le_of_ble_eq_true rfl) (tX12_top  hc) dX12_act_320 (fun H locs J => ?_)
    obtain ⟨hin, hf⟩ := itx hf
    refine as_X12_X12f7 X J hin dX12_act_323 (fun σ13 H locs eq J => ?_)
    have hf := bnd_eq eq hf
    clear eq
    refine lv_goto hx hb dX12_act_324 rfl ?_
    exact zr_vret X J hf dX12_act_442
  have hf := itn h3_ hf
  by_cases h4_ : x1_ = (4 : Int32)
  · have hf := itp h4_ hf
    rw [h4_]
    refine lv_tableIn hx hb dX12_act_114 (by decide) (by decide) (tgt := 327) (by rfl) (by decide) ?_
    refine lv_aload_n hx hb dX12_act_327 rfl (lv_at hl 0 rfl) ?_
    refine lv_dup hx hb dX12_act_328 rfl ?_
    refine gf_X12_485 X J dX12_act_329 ?_
    refine lv_iconst (v := (2 : Int32)) hx hb dX12_act_332 (by decide) ?_
    refine lv_iadd hx hb dX12_act_333 ?_
    refine pf_X12_485 X J dX12_act_334 (fun σ14 H locs eq J => ?_)
    have hf := bnd_eq eq hf
    clear eq
    refine lv_aload_n hx hb dX12_act_337 rfl (lv_at hl 0 rfl) ?_
    refine lv_aload_n hx hb dX12_act_338 rfl (lv_at hl 0 rfl) ?_
    refine gf_X12_16 X J dX12_act_339 ?_
    refine lv_aload_n hx hb dX12_act_342 rfl (lv_at hl 0 rfl) ?_
    refine gf_X12_491 X J dX12_act_343 ?_
    refine lv_iload_n hx hb dX12_act_346 rfl (lv_at hl 2 rfl) ?_
    refine lv_iadd hx hb dX12_act_347 ?_
    obtain ⟨hin, hf⟩ := itx hf
    refine al_X12_X12f7 X J hin dX12_act_348 ?_
    obtain ⟨r15, σ16, hc, hf⟩ := obd_some hf
    refine zr_callv (As := [.int (zA σ14 3 ((zI σ14 0 74) + x2_).toNatClampNeg)]) (rest := []) X J 0 ho_R_X12.1 ho_R_X12.2.1 ho_R_X12.2.2 yy_X12_pushes mw_methodLink_TinyCModel_536_TinyCModel_pushes_IV (d := 1) (zR_ok (by omega) (by decide)) hl.1 rfl (Nat.le_of_ble_eq_true rfl) (tX12_pushes  hc) dX12_act_349 (fun H locs J => ?_)
    refine lv_goto hx hb dX12_act_352 rfl ?_
    exact zr_vret X J hf dX12_act_442
  have hf := itn h4_ hf
  by_cases h5_ : x1_ = (5 : Int32)
  · have hf := itp h5_ hf
    rw [h5_]
    refine lv_tableIn hx hb dX12_act_114 (by decide) (by decide) (tgt := 355) (by rfl) (by decide) ?_
    refine lv_aload_n hx hb dX12_act_355 rfl (lv_at hl 0 rfl) ?_
    refine lv_dup hx hb dX12_act_356 rfl ?_
    refine gf_X12_485 X J dX12_act_357 ?_
    refine lv_iconst (v := (2 : Int32)) hx hb dX12_act_360 (by decide) ?_
    refine lv_iadd hx hb dX12_act_361 ?_
    refine pf_X12_485 X J dX12_act_362 (fun σ17 H locs eq J => ?_)
    have hf := bnd_eq eq hf
    clear eq
    refine lv_aload_n hx hb dX12_act_365 rfl (lv_at hl 0 rfl) ?_
    refine gf_X12_16 X J dX12_act_366 ?_
    refine lv_aload_n hx hb dX12_act_369 rfl (lv_at hl 0 rfl) ?_
    refine gf_X12_491 X J dX12_act_370 ?_
    refine lv_iload_n hx hb dX12_act_373 rfl (lv_at hl 2 rfl) ?_
    refine lv_iadd hx hb dX12_act_374 ?_
    refine lv_aload_n hx hb dX12_act_375 rfl (lv_at hl 0 rfl) ?_
    obtain ⟨r18, σ19, hc, hf⟩ := obd_some hf
    refine zr_calli (As := []) (rest := [.int ((zI σ17 0 74) + x2_), .ref (ad 3)]) X J 0 ho_R_X12.1 ho_R_X12.2.1 ho_R_X12.2.2 yy_X12_top mw_methodLink_TinyCModel_539_TinyCModel_top_I (d := 0) (zR_ok (by omega) (by decide)) hl.1 rfl (Nat.le_of_ble_eq_true rfl) (tX12_top  hc) dX12_act_376 (fun H locs J => ?_)
    obtain ⟨hin, hf⟩ := itx hf
    refine as_X12_X12f7 X J hin dX12_act_379 (fun σ20 H locs eq J => ?_)
    have hf := bnd_eq eq hf
    clear eq
    refine lv_goto hx hb dX12_act_380 rfl ?_
    exact zr_vret X J hf dX12_act_442
  have hf := itn h5_ hf
  by_cases h6_ : x1_ = (6 : Int32)
  · have hf := itp h6_ hf
    rw [h6_]
    refine lv_tableIn hx hb dX12_act_114 (by decide) (by decide) (tgt := 383) (by rfl) (by decide) ?_
    refine lv_aload_n hx hb dX12_act_383 rfl (lv_at hl 0 rfl) ?_
    refine lv_dup hx hb dX12_act_384 rfl ?_
    refine gf_X12_485 X J dX12_act_385 ?_
    refine lv_iconst (v := (3 : Int32)) hx hb dX12_act_388 (by decide) ?_
    refine lv_iadd hx hb dX12_act_389 ?_
    refine pf_X12_485 X J dX12_act_390 (fun σ21 H locs eq J => ?_)
    have hf := bnd_eq eq hf
    clear eq
    refine lv_aload_n hx hb dX12_act_393 rfl (lv_at hl 0 rfl) ?_
    refine lv_iload_n hx hb dX12_act_394 rfl (lv_at hl 1 rfl) ?_
    refine lv_iload_n hx hb dX12_act_395 rfl (lv_at hl 2 rfl) ?_
    refine lv_iload_n hx hb dX12_act_396 rfl (lv_at hl 3 rfl) ?_
    obtain ⟨r22, σ23, hc, hf⟩ := obd_some hf
    refine zr_callv (As := [.int x1_, .int x2_, .int x3_]) (rest := []) X J 0 ho_R_X12.1 ho_R_X12.2.1 ho_R_X12.2.2 yy_X12_items mw_methodLink_TinyCModel_542_TinyCModel_items_IIIV (d := 2) (zR_ok (by omega) (by decide)) hl.1 rfl (Nat.le_of_ble_eq_true rfl) (tX12_items  hc) dX12_act_397 (fun H locs J => ?_)
    refine lv_goto hx hb dX12_act_400 rfl ?_
    exact zr_vret X J hf dX12_act_442
  have hf := itn h6_ hf
  by_cases h7_ : x1_ = (7 : Int32)
  · have hf := itp h7_ hf
    rw [h7_]
    refine lv_tableIn hx hb dX12_act_114 (by decide) (by decide) (tgt := 383) (by rfl) (by decide) ?_
    refine lv_aload_n hx hb dX12_act_383 rfl (lv_at hl 0 rfl) ?_
    refine lv_dup hx hb dX12_act_384 rfl ?_
    refine gf_X12_485 X J dX12_act_385 ?_
    refine lv_iconst (v := (3 : Int32)) hx hb dX12_act_388 (by decide) ?_
    refine lv_iadd hx hb dX12_act_389 ?_
    refine pf_X12_485 X J dX12_act_390 (fun σ24 H locs eq J => ?_)
    have hf := bnd_eq eq hf
    clear eq
    refine lv_aload_n hx hb dX12_act_393 rfl (lv_at hl 0 rfl) ?_
    refine lv_iload_n hx hb dX12_act_394 rfl (lv_at hl 1 rfl) ?_
    refine lv_iload_n hx hb dX12_act_395 rfl (lv_at hl 2 rfl) ?_
    refine lv_iload_n hx hb dX12_act_396 rfl (lv_at hl 3 rfl) ?_
    obtain ⟨r25, σ26, hc, hf⟩ := obd_some hf
    refine zr_callv (As := [.int x1_, .int x2_, .int x3_]) (rest := []) X J 0 ho_R_X12.1 ho_R_X12.2.1 ho_R_X12.2.2 yy_X12_items mw_methodLink_TinyCModel_542_TinyCModel_items_IIIV (d := 2) (zR_ok (by omega) (by decide)) hl.1 rfl (Nat.le_of_ble_eq_true rfl) (tX12_items  hc) dX12_act_397 (fun H locs J => ?_)
    refine lv_goto hx hb dX12_act_400 rfl ?_
    exact zr_vret X J hf dX12_act_442
  have hf := itn h7_ hf
  by_cases h8_ : x1_ = (8 : Int32)
  · have hf := itp h8_ hf
    rw [h8_]
    refine lv_tableIn hx hb dX12_act_114 (by decide) (by decide) (tgt := 435) (by rfl) (by decide) ?_
    refine lv_aload_n hx hb dX12_act_435 rfl (lv_at hl 0 rfl) ?_
    refine lv_iload_n hx hb dX12_act_436 rfl (lv_at hl 1 rfl) ?_
    refine lv_iload_n hx hb dX12_act_437 rfl (lv_at hl 2 rfl) ?_
    refine lv_iload_n hx hb dX12_act_438 rfl (lv_at hl 3 rfl) ?_
    obtain ⟨r27, σ28, hc, hf⟩ := obd_some hf
    refine zr_callv (As := [.int x1_, .int x2_, .int x3_]) (rest := []) X J 0 ho_R_X12.1 ho_R_X12.2.1 ho_R_X12.2.2 yy_X12_acts mw_methodLink_TinyCModel_544_TinyCModel_acts_IIIV (d := 1) (zR_ok (by omega) (by decide)) hl.1 rfl (Nat.le_of_ble_eq_true rfl) (tX12_acts  hc) dX12_act_439 (fun H locs J => ?_)
    exact zr_vret X J hf dX12_act_442
  have hf := itn h8_ hf
  by_cases h9_ : x1_ = (9 : Int32)
  · have hf := itp h9_ hf
    rw [h9_]
    refine lv_tableIn hx hb dX12_act_114 (by decide) (by decide) (tgt := 435) (by rfl) (by decide) ?_
    refine lv_aload_n hx hb dX12_act_435 rfl (lv_at hl 0 rfl) ?_
    refine lv_iload_n hx hb dX12_act_436 rfl (lv_at hl 1 rfl) ?_
    refine lv_iload_n hx hb dX12_act_437 rfl (lv_at hl 2 rfl) ?_
    refine lv_iload_n hx hb dX12_act_438 rfl (lv_at hl 3 rfl) ?_
    obtain ⟨r29, σ30, hc, hf⟩ := obd_some hf
    refine zr_callv (As := [.int x1_, .int x2_, .int x3_]) (rest := []) X J 0 ho_R_X12.1 ho_R_X12.2.1 ho_R_X12.2.2 yy_X12_acts mw_methodLink_TinyCModel_544_TinyCModel_acts_IIIV (d := 1) (zR_ok (by omega) (by decide)) hl.1 rfl (Nat.le_of_ble_eq_true rfl) (tX12_acts  hc) dX12_act_439 (fun H locs J => ?_)
    exact zr_vret X J hf dX12_act_442
  have hf := itn h9_ hf
  by_cases h10_ : x1_ = (10 : Int32)
  · have hf := itp h10_ hf
    rw [h10_]
    refine lv_tableIn hx hb dX12_act_114 (by decide) (by decide) (tgt := 435) (by rfl) (by decide) ?_
    refine lv_aload_n hx hb dX12_act_435 rfl (lv_at hl 0 rfl) ?_
    refine lv_iload_n hx hb dX12_act_436 rfl (lv_at hl 1 rfl) ?_
    refine lv_iload_n hx hb dX12_act_437 rfl (lv_at hl 2 rfl) ?_
    refine lv_iload_n hx hb dX12_act_438 rfl (lv_at hl 3 rfl) ?_
    obtain ⟨r31, σ32, hc, hf⟩ := obd_some hf
    refine zr_callv (As := [.int x1_, .int x2_, .int x3_]) (rest := []) X J 0 ho_R_X12.1 ho_R_X12.2.1 ho_R_X12.2.2 yy_X12_acts mw_methodLink_TinyCModel_544_TinyCModel_acts_IIIV (d := 1) (zR_ok (by omega) (by decide)) hl.1 rfl (Nat.le_of_ble_eq_true rfl) (tX12_acts  hc) dX12_act_439 (fun H locs J => ?_)
    exact zr_vret X J hf dX12_act_442
  have hf := itn h10_ hf
  by_cases h11_ : x1_ = (11 : Int32)
  · have hf := itp h11_ hf
    rw [h11_]
    refine lv_tableIn hx hb dX12_act_114 (by decide) (by decide) (tgt := 435) (by rfl) (by decide) ?_
    refine lv_aload_n hx hb dX12_act_435 rfl (lv_at hl 0 rfl) ?_
    refine lv_iload_n hx hb dX12_act_436 rfl (lv_at hl 1 rfl) ?_
    refine lv_iload_n hx hb dX12_act_437 rfl (lv_at hl 2 rfl) ?_
    refine lv_iload_n hx hb dX12_act_438 rfl (lv_at hl 3 rfl) ?_
    obtain ⟨r33, σ34, hc, hf⟩ := obd_some hf
    refine zr_callv (As := [.int x1_, .int x2_, .int x3_]) (rest := []) X J 0 ho_R_X12.1 ho_R_X12.2.1 ho_R_X12.2.2 yy_X12_acts mw_methodLink_TinyCModel_544_TinyCModel_acts_IIIV (d := 1) (zR_ok (by omega) (by decide)) hl.1 rfl (Nat.le_of_ble_eq_true rfl) (tX12_acts  hc) dX12_act_439 (fun H locs J => ?_)
    exact zr_vret X J hf dX12_act_442
  have hf := itn h11_ hf
  by_cases h12_ : x1_ = (12 : Int32)
  · have hf := itp h12_ hf
    rw [h12_]
    refine lv_tableIn hx hb dX12_act_114 (by decide) (by decide) (tgt := 435) (by rfl) (by decide) ?_
    refine lv_aload_n hx hb dX12_act_435 rfl (lv_at hl 0 rfl) ?_
    refine lv_iload_n hx hb dX12_act_436 rfl (lv_at hl 1 rfl) ?_
    refine lv_iload_n hx hb dX12_act_437 rfl (lv_at hl 2 rfl) ?_
    refine lv_iload_n hx hb dX12_act_438 rfl (lv_at hl 3 rfl) ?_
    obtain ⟨r35, σ36, hc, hf⟩ := obd_some hf
    refine zr_callv (As := [.int x1_, .int x2_, .int x3_]) (rest := []) X J 0 ho_R_X12.1 ho_R_X12.2.1 ho_R_X12.2.2 yy_X12_acts mw_methodLink_TinyCModel_544_TinyCModel_acts_IIIV (d := 1) (zR_ok (by omega) (by decide)) hl.1 rfl (Nat.le_of_ble_eq_true rfl) (tX12_acts  hc) dX12_act_439 (fun H locs J => ?_)
    exact zr_vret X J hf dX12_act_442
  have hf := itn h12_ hf
  by_cases h13_ : x1_ = (13 : Int32)
  · have hf := itp h13_ hf
    rw [h13_]
    refine lv_tableIn hx hb dX12_act_114 (by decide) (by decide) (tgt := 435) (by rfl) (by decide) ?_
    refine lv_aload_n hx hb dX12_act_435 rfl (lv_at hl 0 rfl) ?_
    refine lv_iload_n hx hb dX12_act_436 rfl (lv_at hl 1 rfl) ?_
    refine lv_iload_n hx hb dX12_act_437 rfl (lv_at hl 2 rfl) ?_
    refine lv_iload_n hx hb dX12_act_438 rfl (lv_at hl 3 rfl) ?_
    obtain ⟨r37, σ38, hc, hf⟩ := obd_some hf
    refine zr_callv (As := [.int x1_, .int x2_, .int x3_]) (rest := []) X J 0 ho_R_X12.1 ho_R_X12.2.1 ho_R_X12.2.2 yy_X12_acts mw_methodLink_TinyCModel_544_TinyCModel_acts_IIIV (d := 1) (zR_ok (by omega) (by decide)) hl.1 rfl (Nat.le_of_ble_eq_true rfl) (tX12_acts  hc) dX12_act_439 (fun H locs J => ?_)
    exact zr_vret X J hf dX12_act_442
  have hf := itn h13_ hf
  by_cases h14_ : x1_ = (14 : Int32)
  · have hf := itp h14_ hf
    rw [h14_]
    refine lv_tableIn hx hb dX12_act_114 (by decide) (by decide) (tgt := 435) (by rfl) (by decide) ?_
    refine lv_aload_n hx hb dX12_act_435 rfl (lv_at hl 0 rfl) ?_
    refine lv_iload_n hx hb dX12_act_436 rfl (lv_at hl 1 rfl) ?_
    refine lv_iload_n hx hb dX12_act_437 rfl (lv_at hl 2 rfl) ?_
    refine lv_iload_n hx hb dX12_act_438 rfl (lv_at hl 3 rfl) ?_
    obtain ⟨r39, σ40, hc, hf⟩ := obd_some hf
    refine zr_callv (As := [.int x1_, .int x2_, .int x3_]) (rest := []) X J 0 ho_R_X12.1 ho_R_X12.2.1 ho_R_X12.2.2 yy_X12_acts mw_methodLink_TinyCModel_544_TinyCModel_acts_IIIV (d := 1) (zR_ok (by omega) (by decide)) hl.1 rfl (Nat.le_of_ble_eq_true rfl) (tX12_acts  hc) dX12_act_439 (fun H locs J => ?_)
    exact zr_vret X J hf dX12_act_442
  have hf := itn h14_ hf
  by_cases h15_ : x1_ = (15 : Int32)
  · have hf := itp h15_ hf
    rw [h15_]
    refine lv_tableIn hx hb dX12_act_114 (by decide) (by decide) (tgt := 435) (by rfl) (by decide) ?_
    refine lv_aload_n hx hb dX12_act_435 rfl (lv_at hl 0 rfl) ?_
    refine lv_iload_n hx hb dX12_act_436 rfl (lv_at hl 1 rfl) ?_
    refine lv_iload_n hx hb dX12_act_437 rfl (lv_at hl 2 rfl) ?_
    refine lv_iload_n hx hb dX12_act_438 rfl (lv_at hl 3 rfl) ?_
    obtain ⟨r41, σ42, hc, hf⟩ := obd_some hf
    refine zr_callv (As := [.int x1_, .int x2_, .int x3_]) (rest := []) X J 0 ho_R_X12.1 ho_R_X12.2.1 ho_R_X12.2.2 yy_X12_acts mw_methodLink_TinyCModel_544_TinyCModel_acts_IIIV (d := 1) (zR_ok (by omega) (by decide)) hl.1 rfl (Nat.le_of_ble_eq_true rfl) (tX12_acts  hc) dX12_act_439 (fun H locs J => ?_)
    exact zr_vret X J hf dX12_act_442
  have hf := itn h15_ hf
  by_cases h16_ : x1_ = (16 : Int32)
  · have hf := itp h16_ hf
    rw [h16_]
    refine lv_tableIn hx hb dX12_act_114 (by decide) (by decide) (tgt := 435) (by rfl) (by decide) ?_
    refine lv_aload_n hx hb dX12_act_435 rfl (lv_at hl 0 rfl) ?_
    refine lv_iload_n hx hb dX12_act_436 rfl (lv_at hl 1 rfl) ?_
    refine lv_iload_n hx hb dX12_act_437 rfl (lv_at hl 2 rfl) ?_
    refine lv_iload_n hx hb dX12_act_438 rfl (lv_at hl 3 rfl) ?_
    obtain ⟨r43, σ44, hc, hf⟩ := obd_some hf
    refine zr_callv (As := [.int x1_, .int x2_, .int x3_]) (rest := []) X J 0 ho_R_X12.1 ho_R_X12.2.1 ho_R_X12.2.2 yy_X12_acts mw_methodLink_TinyCModel_544_TinyCModel_acts_IIIV (d := 1) (zR_ok (by omega) (by decide)) hl.1 rfl (Nat.le_of_ble_eq_true rfl) (tX12_acts  hc) dX12_act_439 (fun H locs J => ?_)
    exact zr_vret X J hf dX12_act_442
  have hf := itn h16_ hf
  by_cases h17_ : x1_ = (17 : Int32)
  · have hf := itp h17_ hf
    rw [h17_]
    refine lv_tableIn hx hb dX12_act_114 (by decide) (by decide) (tgt := 435) (by rfl) (by decide) ?_
    refine lv_aload_n hx hb dX12_act_435 rfl (lv_at hl 0 rfl) ?_
    refine lv_iload_n hx hb dX12_act_436 rfl (lv_at hl 1 rfl) ?_
    refine lv_iload_n hx hb dX12_act_437 rfl (lv_at hl 2 rfl) ?_
    refine lv_iload_n hx hb dX12_act_438 rfl (lv_at hl 3 rfl) ?_
    obtain ⟨r45, σ46, hc, hf⟩ := obd_some hf
    refine zr_callv (As := [.int x1_, .int x2_, .int x3_]) (rest := []) X J 0 ho_R_X12.1 ho_R_X12.2.1 ho_R_X12.2.2 yy_X12_acts mw_methodLink_TinyCModel_544_TinyCModel_acts_IIIV (d := 1) (zR_ok (by omega) (by decide)) hl.1 rfl (Nat.le_of_ble_eq_true rfl) (tX12_acts  hc) dX12_act_439 (fun H locs J => ?_)
    exact zr_vret X J hf dX12_act_442
  have hf := itn h17_ hf
  by_cases h18_ : x1_ = (18 : Int32)
  · have hf := itp h18_ hf
    rw [h18_]
    refine lv_tableIn hx hb dX12_act_114 (by decide) (by decide) (tgt := 435) (by rfl) (by decide) ?_
    refine lv_aload_n hx hb dX12_act_435 rfl (lv_at hl 0 rfl) ?_
    refine lv_iload_n hx hb dX12_act_436 rfl (lv_at hl 1 rfl) ?_
    refine lv_iload_n hx hb dX12_act_437 rfl (lv_at hl 2 rfl) ?_
    refine lv_iload_n hx hb dX12_act_438 rfl (lv_at hl 3 rfl) ?_
    obtain ⟨r47, σ48, hc, hf⟩ := obd_some hf
    refine zr_callv (As := [.int x1_, .int x2_, .int x3_]) (rest := []) X J 0 ho_R_X12.1 ho_R_X12.2.1 ho_R_X12.2.2 yy_X12_acts mw_methodLink_TinyCModel_544_TinyCModel_acts_IIIV (d := 1) (zR_ok (by omega) (by decide)) hl.1 rfl (Nat.le_of_ble_eq_true rfl) (tX12_acts  hc) dX12_act_439 (fun H locs J => ?_)
    exact zr_vret X J hf dX12_act_442
  have hf := itn h18_ hf
  by_cases h19_ : x1_ = (19 : Int32)
  · have hf := itp h19_ hf
    rw [h19_]
    refine lv_tableIn hx hb dX12_act_114 (by decide) (by decide) (tgt := 435) (by rfl) (by decide) ?_
    refine lv_aload_n hx hb dX12_act_435 rfl (lv_at hl 0 rfl) ?_
    refine lv_iload_n hx hb dX12_act_436 rfl (lv_at hl 1 rfl) ?_
    refine lv_iload_n hx hb dX12_act_437 rfl (lv_at hl 2 rfl) ?_
    refine lv_iload_n hx hb dX12_act_438 rfl (lv_at hl 3 rfl) ?_
    obtain ⟨r49, σ50, hc, hf⟩ := obd_some hf
    refine zr_callv (As := [.int x1_, .int x2_, .int x3_]) (rest := []) X J 0 ho_R_X12.1 ho_R_X12.2.1 ho_R_X12.2.2 yy_X12_acts mw_methodLink_TinyCModel_544_TinyCModel_acts_IIIV (d := 1) (zR_ok (by omega) (by decide)) hl.1 rfl (Nat.le_of_ble_eq_true rfl) (tX12_acts  hc) dX12_act_439 (fun H locs J => ?_)
    exact zr_vret X J hf dX12_act_442
  have hf := itn h19_ hf
  by_cases h20_ : x1_ = (20 : Int32)
  · have hf := itp h20_ hf
    rw [h20_]
    refine lv_tableIn hx hb dX12_act_114 (by decide) (by decide) (tgt := 435) (by rfl) (by decide) ?_
    refine lv_aload_n hx hb dX12_act_435 rfl (lv_at hl 0 rfl) ?_
    refine lv_iload_n hx hb dX12_act_436 rfl (lv_at hl 1 rfl) ?_
    refine lv_iload_n hx hb dX12_act_437 rfl (lv_at hl 2 rfl) ?_
    refine lv_iload_n hx hb dX12_act_438 rfl (lv_at hl 3 rfl) ?_
    obtain ⟨r51, σ52, hc, hf⟩ := obd_some hf
    refine zr_callv (As := [.int x1_, .int x2_, .int x3_]) (rest := []) X J 0 ho_R_X12.1 ho_R_X12.2.1 ho_R_X12.2.2 yy_X12_acts mw_methodLink_TinyCModel_544_TinyCModel_acts_IIIV (d := 1) (zR_ok (by omega) (by decide)) hl.1 rfl (Nat.le_of_ble_eq_true rfl) (tX12_acts  hc) dX12_act_439 (fun H locs J => ?_)
    exact zr_vret X J hf dX12_act_442
  have hf := itn h20_ hf
  by_cases h21_ : x1_ = (21 : Int32)
  · have hf := itp h21_ hf
    rw [h21_]
    refine lv_tableIn hx hb dX12_act_114 (by decide) (by decide) (tgt := 435) (by rfl) (by decide) ?_
    refine lv_aload_n hx hb dX12_act_435 rfl (lv_at hl 0 rfl) ?_
    refine lv_iload_n hx hb dX12_act_436 rfl (lv_at hl 1 rfl) ?_
    refine lv_iload_n hx hb dX12_act_437 rfl (lv_at hl 2 rfl) ?_
    refine lv_iload_n hx hb dX12_act_438 rfl (lv_at hl 3 rfl) ?_
    obtain ⟨r53, σ54, hc, hf⟩ := obd_some hf
    refine zr_callv (As := [.int x1_, .int x2_, .int x3_]) (rest := []) X J 0 ho_R_X12.1 ho_R_X12.2.1 ho_R_X12.2.2 yy_X12_acts mw_methodLink_TinyCModel_544_TinyCModel_acts_IIIV (d := 1) (zR_ok (by omega) (by decide)) hl.1 rfl (Nat.le_of_ble_eq_true rfl) (tX12_acts  hc) dX12_act_439 (fun H locs J => ?_)
    exact zr_vret X J hf dX12_act_442
  have hf := itn h21_ hf
  by_cases h22_ : x1_ = (22 : Int32)
  · have hf := itp h22_ hf
    rw [h22_]
    refine lv_tableIn hx hb dX12_act_114 (by decide) (by decide) (tgt := 435) (by rfl) (by decide) ?_
    refine lv_aload_n hx hb dX12_act_435 rfl (lv_at hl 0 rfl) ?_
    refine lv_iload_n hx hb dX12_act_436 rfl (lv_at hl 1 rfl) ?_
    refine lv_iload_n hx hb dX12_act_437 rfl (lv_at hl 2 rfl) ?_
    refine lv_iload_n hx hb dX12_act_438 rfl (lv_at hl 3 rfl) ?_
    obtain ⟨r55, σ56, hc, hf⟩ := obd_some hf
    refine zr_callv (As := [.int x1_, .int x2_, .int x3_]) (rest := []) X J 0 ho_R_X12.1 ho_R_X12.2.1 ho_R_X12.2.2 yy_X12_acts mw_methodLink_TinyCModel_544_TinyCModel_acts_IIIV (d := 1) (zR_ok (by omega) (by decide)) hl.1 rfl (Nat.le_of_ble_eq_true rfl) (tX12_acts  hc) dX12_act_439 (fun H locs J => ?_)
    exact zr_vret X J hf dX12_act_442
  have hf := itn h22_ hf
  by_cases h23_ : x1_ = (23 : Int32)
  · have hf := itp h23_ hf
    rw [h23_]
    refine lv_tableIn hx hb dX12_act_114 (by decide) (by decide) (tgt := 435) (by rfl) (by decide) ?_
    refine lv_aload_n hx hb dX12_act_435 rfl (lv_at hl 0 rfl) ?_
    refine lv_iload_n hx hb dX12_act_436 rfl (lv_at hl 1 rfl) ?_
    refine lv_iload_n hx hb dX12_act_437 rfl (lv_at hl 2 rfl) ?_
    refine lv_iload_n hx hb dX12_act_438 rfl (lv_at hl 3 rfl) ?_
    obtain ⟨r57, σ58, hc, hf⟩ := obd_some hf
    refine zr_callv (As := [.int x1_, .int x2_, .int x3_]) (rest := []) X J 0 ho_R_X12.1 ho_R_X12.2.1 ho_R_X12.2.2 yy_X12_acts mw_methodLink_TinyCModel_544_TinyCModel_acts_IIIV (d := 1) (zR_ok (by omega) (by decide)) hl.1 rfl (Nat.le_of_ble_eq_true rfl) (tX12_acts  hc) dX12_act_439 (fun H locs J => ?_)
    exact zr_vret X J hf dX12_act_442
  have hf := itn h23_ hf
  by_cases h24_ : x1_ = (24 : Int32)
  · have hf := itp h24_ hf
    rw [h24_]
    refine lv_tableIn hx hb dX12_act_114 (by decide) (by decide) (tgt := 435) (by rfl) (by decide) ?_
    refine lv_aload_n hx hb dX12_act_435 rfl (lv_at hl 0 rfl) ?_
    refine lv_iload_n hx hb dX12_act_436 rfl (lv_at hl 1 rfl) ?_
    refine lv_iload_n hx hb dX12_act_437 rfl (lv_at hl 2 rfl) ?_
    refine lv_iload_n hx hb dX12_act_438 rfl (lv_at hl 3 rfl) ?_
    obtain ⟨r59, σ60, hc, hf⟩ := obd_some hf
    refine zr_callv (As := [.int x1_, .int x2_, .int x3_]) (rest := []) X J 0 ho_R_X12.1 ho_R_X12.2.1 ho_R_X12.2.2 yy_X12_acts mw_methodLink_TinyCModel_544_TinyCModel_acts_IIIV (d := 1) (zR_ok (by omega) (by decide)) hl.1 rfl (Nat.le_of_ble_eq_true rfl) (tX12_acts  hc) dX12_act_439 (fun H locs J => ?_)
    exact zr_vret X J hf dX12_act_442
  have hf := itn h24_ hf
  by_cases h25_ : x1_ = (25 : Int32)
  · have hf := itp h25_ hf
    rw [h25_]
    refine lv_tableIn hx hb dX12_act_114 (by decide) (by decide) (tgt := 435) (by rfl) (by decide) ?_
    refine lv_aload_n hx hb dX12_act_435 rfl (lv_at hl 0 rfl) ?_
    refine lv_iload_n hx hb dX12_act_436 rfl (lv_at hl 1 rfl) ?_
    refine lv_iload_n hx hb dX12_act_437 rfl (lv_at hl 2 rfl) ?_
    refine lv_iload_n hx hb dX12_act_438 rfl (lv_at hl 3 rfl) ?_
    obtain ⟨r61, σ62, hc, hf⟩ := obd_some hf
    refine zr_callv (As := [.int x1_, .int x2_, .int x3_]) (rest := []) X J 0 ho_R_X12.1 ho_R_X12.2.1 ho_R_X12.2.2 yy_X12_acts mw_methodLink_TinyCModel_544_TinyCModel_acts_IIIV (d := 1) (zR_ok (by omega) (by decide)) hl.1 rfl (Nat.le_of_ble_eq_true rfl) (tX12_acts  hc) dX12_act_439 (fun H locs J => ?_)
    exact zr_vret X J hf dX12_act_442
  have hf := itn h25_ hf
  by_cases h26_ : x1_ = (26 : Int32)
  · have hf := itp h26_ hf
    rw [h26_]
    refine lv_tableIn hx hb dX12_act_114 (by decide) (by decide) (tgt := 435) (by rfl) (by decide) ?_
    refine lv_aload_n hx hb dX12_act_435 rfl (lv_at hl 0 rfl) ?_
    refine lv_iload_n hx hb dX12_act_436 rfl (lv_at hl 1 rfl) ?_
    refine lv_iload_n hx hb dX12_act_437 rfl (lv_at hl 2 rfl) ?_
    refine lv_iload_n hx hb dX12_act_438 rfl (lv_at hl 3 rfl) ?_
    obtain ⟨r63, σ64, hc, hf⟩ := obd_some hf
    refine zr_callv (As := [.int x1_, .int x2_, .int x3_]) (rest := []) X J 0 ho_R_X12.1 ho_R_X12.2.1 ho_R_X12.2.2 yy_X12_acts mw_methodLink_TinyCModel_544_TinyCModel_acts_IIIV (d := 1) (zR_ok (by omega) (by decide)) hl.1 rfl (Nat.le_of_ble_eq_true rfl) (tX12_acts  hc) dX12_act_439 (fun H locs J => ?_)
    exact zr_vret X J hf dX12_act_442
  have hf := itn h26_ hf
  by_cases h27_ : x1_ = (27 : Int32)
  · have hf := itp h27_ hf
    rw [h27_]
    refine lv_tableIn hx hb dX12_act_114 (by decide) (by decide) (tgt := 435) (by rfl) (by decide) ?_
    refine lv_aload_n hx hb dX12_act_435 rfl (lv_at hl 0 rfl) ?_
    refine lv_iload_n hx hb dX12_act_436 rfl (lv_at hl 1 rfl) ?_
    refine lv_iload_n hx hb dX12_act_437 rfl (lv_at hl 2 rfl) ?_
    refine lv_iload_n hx hb dX12_act_438 rfl (lv_at hl 3 rfl) ?_
    obtain ⟨r65, σ66, hc, hf⟩ := obd_some hf
    refine zr_callv (As := [.int x1_, .int x2_, .int x3_]) (rest := []) X J 0 ho_R_X12.1 ho_R_X12.2.1 ho_R_X12.2.2 yy_X12_acts mw_methodLink_TinyCModel_544_TinyCModel_acts_IIIV (d := 1) (zR_ok (by omega) (by decide)) hl.1 rfl (Nat.le_of_ble_eq_true rfl) (tX12_acts  hc) dX12_act_439 (fun H locs J => ?_)
    exact zr_vret X J hf dX12_act_442
  have hf := itn h27_ hf
  by_cases h28_ : x1_ = (28 : Int32)
  · have hf := itp h28_ hf
    rw [h28_]
    refine lv_tableIn hx hb dX12_act_114 (by decide) (by decide) (tgt := 435) (by rfl) (by decide) ?_
    refine lv_aload_n hx hb dX12_act_435 rfl (lv_at hl 0 rfl) ?_
    refine lv_iload_n hx hb dX12_act_436 rfl (lv_at hl 1 rfl) ?_
    refine lv_iload_n hx hb dX12_act_437 rfl (lv_at hl 2 rfl) ?_
    refine lv_iload_n hx hb dX12_act_438 rfl (lv_at hl 3 rfl) ?_
    obtain ⟨r67, σ68, hc, hf⟩ := obd_some hf
    refine zr_callv (As := [.int x1_, .int x2_, .int x3_]) (rest := []) X J 0 ho_R_X12.1 ho_R_X12.2.1 ho_R_X12.2.2 yy_X12_acts mw_methodLink_TinyCModel_544_TinyCModel_acts_IIIV (d := 1) (zR_ok (by omega) (by decide)) hl.1 rfl (Nat.le_of_ble_eq_true rfl) (tX12_acts  hc) dX12_act_439 (fun H locs J => ?_)
    exact zr_vret X J hf dX12_act_442
  have hf := itn h28_ hf
  by_cases h29_ : x1_ = (29 : Int32)
  · have hf := itp h29_ hf
    rw [h29_]
    refine lv_tableIn hx hb dX12_act_114 (by decide) (by decide) (tgt := 435) (by rfl) (by decide) ?_
    refine lv_aload_n hx hb dX12_act_435 rfl (lv_at hl 0 rfl) ?_
    refine lv_iload_n hx hb dX12_act_436 rfl (lv_at hl 1 rfl) ?_
    refine lv_iload_n hx hb dX12_act_437 rfl (lv_at hl 2 rfl) ?_
    refine lv_iload_n hx hb dX12_act_438 rfl (lv_at hl 3 rfl) ?_
    obtain ⟨r69, σ70, hc, hf⟩ := obd_some hf
    refine zr_callv (As := [.int x1_, .int x2_, .int x3_]) (rest := []) X J 0 ho_R_X12.1 ho_R_X12.2.1 ho_R_X12.2.2 yy_X12_acts mw_methodLink_TinyCModel_544_TinyCModel_acts_IIIV (d := 1) (zR_ok (by omega) (by decide)) hl.1 rfl (Nat.le_of_ble_eq_true rfl) (tX12_acts  hc) dX12_act_439 (fun H locs J => ?_)
    exact zr_vret X J hf dX12_act_442
  have hf := itn h29_ hf
  by_cases h30_ : x1_ = (30 : Int32)
  · have hf := itp h30_ hf
    rw [h30_]
    refine lv_tableIn hx hb dX12_act_114 (by decide) (by decide) (tgt := 403) (by rfl) (by decide) ?_
    refine lv_aload_n hx hb dX12_act_403 rfl (lv_at hl 0 rfl) ?_
    refine lv_iload_n hx hb dX12_act_404 rfl (lv_at hl 2 rfl) ?_
    refine pf_X12_485 X J dX12_act_405 (fun σ71 H locs eq J => ?_)
    have hf := bnd_eq eq hf
    clear eq
    refine lv_goto hx hb dX12_act_408 rfl ?_
    exact zr_vret X J hf dX12_act_442
  have hf := itn h30_ hf
  by_cases h31_ : x1_ = (31 : Int32)
  · have hf := itp h31_ hf
    rw [h31_]
    refine lv_tableIn hx hb dX12_act_114 (by decide) (by decide) (tgt := 411) (by rfl) (by decide) ?_
    refine lv_aload_n hx hb dX12_act_411 rfl (lv_at hl 0 rfl) ?_
    refine lv_aload_n hx hb dX12_act_412 rfl (lv_at hl 0 rfl) ?_
    obtain ⟨r72, σ73, hc, hf⟩ := obd_some hf
    refine zr_calli (As := []) (rest := [.ref (ad 0)]) X J 0 ho_R_X12.1 ho_R_X12.2.1 ho_R_X12.2.2 yy_X12_top mw_methodLink_TinyCModel_539_TinyCModel_top_I (d := 0) (zR_ok (by omega) (by decide)) hl.1 rfl (Nat.le_of_ble_eq_true rfl) (tX12_top  hc) dX12_act_413 (fun H locs J => ?_)
    refine lv_if_ne hx hb dX12_act_416 rfl (fun h => ?_) (fun h => ?_)
    · have hf := itn h hf
      refine lv_aload_n hx hb dX12_act_423 rfl (lv_at hl 0 rfl) ?_
      refine gf_X12_485 X J dX12_act_424 ?_
      refine lv_iconst (v := (2 : Int32)) hx hb dX12_act_427 (by decide) ?_
      refine lv_iadd hx hb dX12_act_428 ?_
      exact bX12_act_429 X   J (lv_sub hl [] rfl) hf
    · have hf := itp h hf
      refine lv_iload_n hx hb dX12_act_419 rfl (lv_at hl 2 rfl) ?_
      refine lv_goto hx hb dX12_act_420 rfl ?_
      exact bX12_act_429 X   J (lv_sub hl [] rfl) hf
  have hf := itn h31_ hf
  refine lv_tableOut hx hb dX12_act_114 (tgt := 435) (by have := lv_neT h0_ (a := 0) (by decide); have := lv_neT h1_ (a := 1) (by decide); have := lv_neT h2_ (a := 2) (by decide); have := lv_neT h3_ (a := 3) (by decide); have := lv_neT h4_ (a := 4) (by decide); have := lv_neT h5_ (a := 5) (by decide); have := lv_neT h6_ (a := 6) (by decide); have := lv_neT h7_ (a := 7) (by decide); have := lv_neT h8_ (a := 8) (by decide); have := lv_neT h9_ (a := 9) (by decide); have := lv_neT h10_ (a := 10) (by decide); have := lv_neT h11_ (a := 11) (by decide); have := lv_neT h12_ (a := 12) (by decide); have := lv_neT h13_ (a := 13) (by decide); have := lv_neT h14_ (a := 14) (by decide); have := lv_neT h15_ (a := 15) (by decide); have := lv_neT h16_ (a := 16) (by decide); have := lv_neT h17_ (a := 17) (by decide); have := lv_neT h18_ (a := 18) (by decide); have := lv_neT h19_ (a := 19) (by decide); have := lv_neT h20_ (a := 20) (by decide); have := lv_neT h21_ (a := 21) (by decide); have := lv_neT h22_ (a := 22) (by decide); have := lv_neT h23_ (a := 23) (by decide); have := lv_neT h24_ (a := 24) (by decide); have := lv_neT h25_ (a := 25) (by decide); have := lv_neT h26_ (a := 26) (by decide); have := lv_neT h27_ (a := 27) (by decide); have := lv_neT h28_ (a := 28) (by decide); have := lv_neT h29_ (a := 29) (by decide); have := lv_neT h30_ (a := 30) (by decide); have := lv_neT h31_ (a := 31) (by decide); omega) (by decide) ?_
  refine lv_aload_n hx hb dX12_act_435 rfl (lv_at hl 0 rfl) ?_
  refine lv_iload_n hx hb dX12_act_436 rfl (lv_at hl 1 rfl) ?_
  refine lv_iload_n hx hb dX12_act_437 rfl (lv_at hl 2 rfl) ?_
  refine lv_iload_n hx hb dX12_act_438 rfl (lv_at hl 3 rfl) ?_
  obtain ⟨r75, σ76, hc, hf⟩ := obd_some hf
  refine zr_callv (As := [.int x1_, .int x2_, .int x3_]) (rest := []) X J 0 ho_R_X12.1 ho_R_X12.2.1 ho_R_X12.2.2 yy_X12_acts mw_methodLink_TinyCModel_544_TinyCModel_acts_IIIV (d := 1) (zR_ok (by omega) (by decide)) hl.1 rfl (Nat.le_of_ble_eq_true rfl) (tX12_acts  hc) dX12_act_439 (fun H locs J => ?_)
  exact zr_vret X J hf dX12_act_442
set_option maxHeartbeats 4000000 in
theorem bX12_act_84 {o : Unit × zSt} (X : zX p s m args meth c D cy shR ad ts cX12_act 4 none RX12)  {x1_ : Int32} {x2_ : Int32} {s0_ : Int32}  {σ : zSt} {H : Heap} {locs : List Loc} {ls : Array Slot} (J : zJ D cy shR ad lnR s σ H locs) (hl : lv_has ls 4 [(0, .ref (ad 0)), (1, .int x1_), (2, .int x2_)]) (hf : fX12_act_b84 N  x1_ x2_ s0_ σ = some o) : W p l e (zRm (3)) s m args below meth c H locs 0 0 (zQv D cy shR ad ts lnR below args s o) (F0 m 84 ls [.int s0_]) := by
  have hx := X.1
  have hb := X.2.1
  unfold fX12_act_b84 at hf
  refine lv_istore_n hx hb dX12_act_84 rfl hl (by decide) rfl (fun ls hl => ?_)
  have hl : lv_has ls 4 [(3, .int s0_), (0, .ref (ad 0)), (1, .int x1_), (2, .int x2_)] := hl
  refine lv_iload_n hx hb dX12_act_85 rfl (lv_at hl 2 rfl) ?_
  refine lv_bipush (v := (10 : Int32)) hx hb dX12_act_86 (by decide) ?_
  refine lv_icmp_lt hx hb dX12_act_88 rfl (fun h => ?_) (fun h => ?_)
  · have hf := itp h hf
    exact bX12_act_113 X   J (lv_sub hl [1, 2, 3, 0] rfl) hf
  · have hf := itn h hf
    refine lv_iload_n hx hb dX12_act_91 rfl (lv_at hl 2 rfl) ?_
    refine lv_bipush (v := (28 : Int32)) hx hb dX12_act_92 (by decide) ?_
    refine lv_icmp_gt hx hb dX12_act_94 rfl (fun h => ?_) (fun h => ?_)
    · have hf := itp h hf
      exact bX12_act_113 X   J (lv_sub hl [1, 2, 3, 0] rfl) hf
    · have hf := itn h hf
      refine lv_aload_n hx hb dX12_act_97 rfl (lv_at hl 1 rfl) ?_
      refine lv_dup hx hb dX12_act_98 rfl ?_
      refine gf_X12_485 X J dX12_act_99 ?_
      refine lv_iconst (v := (1 : Int32)) hx hb dX12_act_102 (by decide) ?_
      refine lv_iadd hx hb dX12_act_103 ?_
      refine pf_X12_485 X J dX12_act_104 (fun σ77 H locs eq J => ?_)
      have hf := bnd_eq eq hf
      clear eq
      refine lv_aload_n hx hb dX12_act_107 rfl (lv_at hl 1 rfl) ?_
      refine lv_iload_n hx hb dX12_act_108 rfl (lv_at hl 2 rfl) ?_
      obtain ⟨r78, σ79, hc, hf⟩ := obd_some hf
      refine zr_callv (As := [.int x1_]) (rest := []) X J 0 ho_R_X12.1 ho_R_X12.2.1 ho_R_X12.2.2 yy_X12_reckons mw_methodLink_TinyCModel_530_TinyCModel_reckons_IV (d := 1) (zR_ok (by omega) (by decide)) hl.1 rfl (Nat.le_of_ble_eq_true rfl) (tX12_reckons  hc) dX12_act_109 (fun H locs J => ?_)
      exact zr_vret X J hf dX12_act_112
set_option maxHeartbeats 4000000 in
theorem bX12_act_55 {o : Unit × zSt} (X : zX p s m args meth c D cy shR ad ts cX12_act 4 none RX12)  {x1_ : Int32} {s0_ : Int32}  {σ : zSt} {H : Heap} {locs : List Loc} {ls : Array Slot} (J : zJ D cy shR ad lnR s σ H locs) (hl : lv_has ls 4 [(0, .ref (ad 0)), (1, .int x1_)]) (hf : fX12_act_b55 N  x1_ s0_ σ = some o) : W p l e (zRm (3)) s m args below meth c H locs 0 0 (zQv D cy shR ad ts lnR below args s o) (F0 m 55 ls [.int s0_]) := by
  have hx := X.1
  have hb := X.2.1
  unfold fX12_act_b55 at hf
  refine lv_istore_n hx hb dX12_act_55 rfl hl (by decide) rfl (fun ls hl => ?_)
  have hl : lv_has ls 4 [(2, .int s0_), (0, .ref (ad 0)), (1, .int x1_)] := hl
  refine lv_aload_n hx hb dX12_act_56 rfl (lv_at hl 1 rfl) ?_
  refine gf_X12_485 X J dX12_act_57 ?_
  refine lv_iconst (v := (2 : Int32)) hx hb dX12_act_60 (by decide) ?_
  refine lv_iadd hx hb dX12_act_61 ?_
  refine lv_aload_n hx hb dX12_act_62 rfl (lv_at hl 1 rfl) ?_
  refine gf_X12_472 X J dX12_act_63 ?_
  refine lv_icmp_ge hx hb dX12_act_66 rfl (fun h => ?_) (fun h => ?_)
  · have hf := itp h hf
    refine lv_iconst (v := (0 : Int32)) hx hb dX12_act_83 (by decide) ?_
    exact bX12_act_84 X   J (lv_sub hl [1, 2, 0] rfl) hf
  · have hf := itn h hf
    refine lv_aload_n hx hb dX12_act_69 rfl (lv_at hl 1 rfl) ?_
    refine gf_X12_13 X J dX12_act_70 ?_
    refine lv_aload_n hx hb dX12_act_73 rfl (lv_at hl 1 rfl) ?_
    refine gf_X12_485 X J dX12_act_74 ?_
    refine lv_iconst (v := (2 : Int32)) hx hb dX12_act_77 (by decide) ?_
    refine lv_iadd hx hb dX12_act_78 ?_
    obtain ⟨hin, hf⟩ := itx hf
    refine al_X12_X12f4 X J hin dX12_act_79 ?_
    refine lv_goto hx hb dX12_act_80 rfl ?_
    exact bX12_act_84 X   J (lv_sub hl [1, 2, 0] rfl) hf
set_option maxHeartbeats 4000000 in
theorem tX12_act   {σ u : zSt} {r : Unit} (hf : fX12_act N  σ = some (r, u)) : zMv l yX12_act cX12_act 4 none (3) D cy shR ad ts lnR [.ref (ad 0)] σ u := by
  refine zM_of (by decide) (Nat.le_of_ble_eq_true rfl) (fun p e s m args below meth c ls ha X J hl => ?_)
  have hx := X.1
  have hb := X.2.1
  have hl : lv_has ls 4 [(0, .ref (ad 0))] := hl
  generalize s.heap = H at J ⊢
  generalize ([] : List Loc) = locs at J ⊢
  show W p l e (zRm (3)) s m args below meth c H locs 0 0 (zQv D cy shR ad ts lnR below args s (r, u)) (F0 m 0 ls [])
  unfold fX12_act at hf
  refine lv_aload_n hx hb dX12_act_0 rfl (lv_at hl 0 rfl) ?_
  refine gf_X12_278 X J dX12_act_1 ?_
  refine lv_aload_n hx hb dX12_act_4 rfl (lv_at hl 0 rfl) ?_
  refine gf_X12_170 X J dX12_act_5 ?_
  refine lv_icmp_le hx hb dX12_act_8 rfl (fun h => ?_) (fun h => ?_)
  · have hf := itp h hf
    refine lv_aload_n hx hb dX12_act_17 rfl (lv_at hl 0 rfl) ?_
    refine gf_X12_13 X J dX12_act_18 ?_
    refine lv_aload_n hx hb dX12_act_21 rfl (lv_at hl 0 rfl) ?_
    refine gf_X12_485 X J dX12_act_22 ?_
    obtain ⟨hin, hf⟩ := itx hf
    refine al_X12_X12f4 X J hin dX12_act_25 ?_
    refine lv_topi (fun x1 eq => ?_)
    have hf := bnd_eq eq hf
    clear eq
    refine lv_istore_n hx hb dX12_act_26 rfl hl (by decide) rfl (fun ls hl => ?_)
    have hl : lv_has ls 4 [(1, .int x1), (0, .ref (ad 0))] := hl
    refine lv_aload_n hx hb dX12_act_27 rfl (lv_at hl 1 rfl) ?_
    refine gf_X12_485 X J dX12_act_28 ?_
    refine lv_iconst (v := (1 : Int32)) hx hb dX12_act_31 (by decide) ?_
    refine lv_iadd hx hb dX12_act_32 ?_
    refine lv_aload_n hx hb dX12_act_33 rfl (lv_at hl 1 rfl) ?_
    refine gf_X12_472 X J dX12_act_34 ?_
    refine lv_icmp_ge hx hb dX12_act_37 rfl (fun h => ?_) (fun h => ?_)
    · have hf := itp h hf
      refine lv_iconst (v := (0 : Int32)) hx hb dX12_act_54 (by decide) ?_
      exact bX12_act_55 X   J (lv_sub hl [1, 0] rfl) hf
    · have hf := itn h hf
      refine lv_aload_n hx hb dX12_act_40 rfl (lv_at hl 1 rfl) ?_
      refine gf_X12_13 X J dX12_act_41 ?_
      refine lv_aload_n hx hb dX12_act_44 rfl (lv_at hl 1 rfl) ?_
      refine gf_X12_485 X J dX12_act_45 ?_
      refine lv_iconst (v := (1 : Int32)) hx hb dX12_act_48 (by decide) ?_
      refine lv_iadd hx hb dX12_act_49 ?_
      obtain ⟨hin, hf⟩ := itx hf
      refine al_X12_X12f4 X J hin dX12_act_50 ?_
      refine lv_goto hx hb dX12_act_51 rfl ?_
      exact bX12_act_55 X   J (lv_sub hl [1, 0] rfl) hf
  · have hf := itn h hf
    refine lv_aload_n hx hb dX12_act_11 rfl (lv_at hl 0 rfl) ?_
    refine lv_iconst (v := (4 : Int32)) hx hb dX12_act_12 (by decide) ?_
    refine pf_X12_494 X J dX12_act_13 (fun σ80 H locs eq J => ?_)
    have hf := bnd_eq eq hf
    clear eq
    exact zr_vret X J hf dX12_act_16
set_option maxHeartbeats 4000000 in
theorem tX12_step   {σ u : zSt} {r : Int32} (hf : fX12_step N  σ = some (r, u)) : zMi l yX12_step cX12_step 1 (some .int) (4) D cy shR ad ts lnR [.ref (ad 0)] σ r u := by
  refine zM_of (by decide) (Nat.le_of_ble_eq_true rfl) (fun p e s m args below meth c ls ha X J hl => ?_)
  have hx := X.1
  have hb := X.2.1
  have hl : lv_has ls 1 [(0, .ref (ad 0))] := hl
  generalize s.heap = H at J ⊢
  generalize ([] : List Loc) = locs at J ⊢
  show W p l e (zRm (4)) s m args below meth c H locs 0 0 (zQi D cy shR ad ts lnR below args s (r, u)) (F0 m 0 ls [])
  unfold fX12_step at hf
  refine lv_aload_n hx hb dX12_step_0 rfl (lv_at hl 0 rfl) ?_
  refine gf_X12_475 X J dX12_step_1 ?_
  refine lv_if_ne hx hb dX12_step_4 rfl (fun h => ?_) (fun h => ?_)
  · have hf := itn h hf
    refine lv_aload_n hx hb dX12_step_9 rfl (lv_at hl 0 rfl) ?_
    refine gf_X12_497 X J dX12_step_10 ?_
    refine lv_iconst (v := (2 : Int32)) hx hb dX12_step_13 (by decide) ?_
    refine lv_icmp_ne hx hb dX12_step_14 rfl (fun h => ?_) (fun h => ?_)
    · have hf := itn h hf
      refine lv_aload_n hx hb dX12_step_20 rfl (lv_at hl 0 rfl) ?_
      refine lv_iconst (v := (1 : Int32)) hx hb dX12_step_21 (by decide) ?_
      refine pf_X12_497 X J dX12_step_22 (fun σ1 H locs eq J => ?_)
      have hf := bnd_eq eq hf
      clear eq
      refine lv_aload_n hx hb dX12_step_25 rfl (lv_at hl 0 rfl) ?_
      refine gf_X12_494 X J dX12_step_26 ?_
      refine lv_if_ne hx hb dX12_step_29 rfl (fun h => ?_) (fun h => ?_)
      · have hf := itn h hf
        refine lv_aload_n hx hb dX12_step_36 rfl (lv_at hl 0 rfl) ?_
        refine gf_X12_494 X J dX12_step_37 ?_
        exact zr_iret X J hf dX12_step_40
      · have hf := itp h hf
        refine lv_aload_n hx hb dX12_step_32 rfl (lv_at hl 0 rfl) ?_
        obtain ⟨r2, σ3, hc, hf⟩ := obd_some hf
        refine zr_callv (As := []) (rest := []) X J 0 ho_R_X12.1 ho_R_X12.2.1 ho_R_X12.2.2 yy_X12_act mw_methodLink_TinyCModel_521_TinyCModel_act_V (d := 3) (zR_ok (by omega) (by decide)) hl.1 rfl (Nat.le_of_ble_eq_true rfl) (tX12_act  hc) dX12_step_33 (fun H locs J => ?_)
        refine lv_aload_n hx hb dX12_step_36 rfl (lv_at hl 0 rfl) ?_
        refine gf_X12_494 X J dX12_step_37 ?_
        exact zr_iret X J hf dX12_step_40
    · have hf := itp h hf
      refine lv_bipush (v := (-2 : Int32)) hx hb dX12_step_17 (by decide) ?_
      exact zr_iret X J hf dX12_step_19
  · have hf := itp h hf
    refine lv_iconst (v := (-1 : Int32)) hx hb dX12_step_7 (by decide) ?_
    exact zr_iret X J hf dX12_step_8
set_option maxHeartbeats 4000000 in
theorem bX12_run_22 {o : Int32 × zSt} (X : zX p s m args meth c D cy shR ad ts cX12_run 4 (some .int) RX12)  : ∀ (n : Nat) (x1_ : Int32) (x2_ : Int32) (σ : zSt) (H : Heap) (locs : List Loc) (ls : Array Slot), zJ D cy shR ad lnR s σ H locs → lv_has ls 4 [(0, .ref (ad 0)), (1, .int x1_), (2, .int x2_)] → fX12_run_b22 N  n x1_ x2_ σ = some o → W p l e (zRm (5)) s m args below meth c H locs 0 0 (zQi D cy shR ad ts lnR below args s o) (F0 m 22 ls []) := by
  have hx := X.1
  have hb := X.2.1
  intro n
  induction n with
  | zero =>
    intro x1_ x2_ σ H locs ls J hl hf
    rw [fX12_run_b22] at hf
    cases hf
  | succ n ih =>
    intro x1_ x2_ σ H locs ls J hl hf
    rw [fX12_run_b22] at hf
    refine lv_iload_n hx hb dX12_run_22 rfl (lv_at hl 2 rfl) ?_
    refine lv_iload_n hx hb dX12_run_23 rfl (lv_at hl 1 rfl) ?_
    refine lv_icmp_ge hx hb dX12_run_24 rfl (fun h => ?_) (fun h => ?_)
    · have hf := itp h hf
      refine lv_aload_n hx hb dX12_run_45 rfl (lv_at hl 0 rfl) ?_
      refine gf_X12_494 X J dX12_run_46 ?_
      exact zr_iret X J hf dX12_run_49
    · have hf := itn h hf
      refine lv_aload_n hx hb dX12_run_27 rfl (lv_at hl 0 rfl) ?_
      refine gf_X12_494 X J dX12_run_28 ?_
      refine lv_if_ne hx hb dX12_run_31 rfl (fun h => ?_) (fun h => ?_)
      · have hf := itn h hf
        refine lv_aload_n hx hb dX12_run_45 rfl (lv_at hl 0 rfl) ?_
        refine gf_X12_494 X J dX12_run_46 ?_
        exact zr_iret X J hf dX12_run_49
      · have hf := itp h hf
        refine lv_aload_n hx hb dX12_run_34 rfl (lv_at hl 0 rfl) ?_
        obtain ⟨r2, σ3, hc, hf⟩ := obd_some hf
        refine zr_calli (As := []) (rest := []) X J 0 ho_R_X12.1 ho_R_X12.2.1 ho_R_X12.2.2 yy_X12_step mw_methodLink_TinyCModel_524_TinyCModel_step_I (d := 4) (zR_ok (by omega) (by decide)) hl.1 rfl (Nat.le_of_ble_eq_true rfl) (tX12_step  hc) dX12_run_35 (fun H locs J => ?_)
        refine lv_istore_n hx hb dX12_run_38 rfl hl (by decide) rfl (fun ls hl => ?_)
        have hl : lv_has ls 4 [(3, .int r2), (0, .ref (ad 0)), (1, .int x1_), (2, .int x2_)] := hl
        obtain ⟨x4, eq⟩ : ∃ z, z = x2_ + (1 : Int32) := ⟨_, rfl⟩
        have hf := bnd_eq eq hf
        refine lv_iinc hx hb dX12_run_39 hl (k := 3) rfl (v := x4) (by rw [eq]; rfl) (by decide) rfl (fun ls hl => ?_)
        clear eq
        have hl : lv_has ls 4 [(2, .int x4), (3, .int r2), (0, .ref (ad 0)), (1, .int x1_)] := hl
        refine lv_goto hx hb dX12_run_42 rfl ?_
        exact ih _ _ _ _ _ _ J (lv_sub hl [2, 3, 0] rfl) hf
set_option maxHeartbeats 4000000 in
theorem tX12_run {a1_ : Int32}  {σ u : zSt} {r : Int32} (hf : fX12_run N a1_ σ = some (r, u)) : zMi l yX12_run cX12_run 4 (some .int) (5) D cy shR ad ts lnR [.ref (ad 0), .int a1_] σ r u := by
  refine zM_of (by decide) (Nat.le_of_ble_eq_true rfl) (fun p e s m args below meth c ls ha X J hl => ?_)
  have hx := X.1
  have hb := X.2.1
  have hl : lv_has ls 4 [(0, .ref (ad 0)), (1, .int a1_)] := hl
  generalize s.heap = H at J ⊢
  generalize ([] : List Loc) = locs at J ⊢
  show W p l e (zRm (5)) s m args below meth c H locs 0 0 (zQi D cy shR ad ts lnR below args s (r, u)) (F0 m 0 ls [])
  unfold fX12_run at hf
  refine lv_aload_n hx hb dX12_run_0 rfl (lv_at hl 0 rfl) ?_
  refine gf_X12_475 X J dX12_run_1 ?_
  refine lv_if_ne hx hb dX12_run_4 rfl (fun h => ?_) (fun h => ?_)
  · have hf := itn h hf
    refine lv_aload_n hx hb dX12_run_9 rfl (lv_at hl 0 rfl) ?_
    refine gf_X12_497 X J dX12_run_10 ?_
    refine lv_iconst (v := (2 : Int32)) hx hb dX12_run_13 (by decide) ?_
    refine lv_icmp_ne hx hb dX12_run_14 rfl (fun h => ?_) (fun h => ?_)
    · have hf := itn h hf
      refine lv_iconst (v := (0 : Int32)) hx hb dX12_run_20 (by decide) ?_
      refine lv_topi (fun x1 eq => ?_)
      have hf := bnd_eq eq hf
      clear eq
      refine lv_istore_n hx hb dX12_run_21 rfl hl (by decide) rfl (fun ls hl => ?_)
      have hl : lv_has ls 4 [(2, .int x1), (0, .ref (ad 0)), (1, .int a1_)] := hl
      exact bX12_run_22 X  N _ _ _ _ _ _ J (lv_sub hl [1, 2, 0] rfl) hf
    · have hf := itp h hf
      refine lv_bipush (v := (-2 : Int32)) hx hb dX12_run_17 (by decide) ?_
      exact zr_iret X J hf dX12_run_19
  · have hf := itp h hf
    refine lv_iconst (v := (-1 : Int32)) hx hb dX12_run_7 (by decide) ?_
    exact zr_iret X J hf dX12_run_8
set_option maxHeartbeats 4000000 in
theorem tX12_gives {a1_ : Int32}  {σ u : zSt} {r : Unit} (hf : fX12_gives N a1_ σ = some (r, u)) : zMv l yX12_gives cX12_gives 2 none (0) D cy shR ad ts lnR [.ref (ad 0), .int a1_] σ u := by
  refine zM_of (by decide) (Nat.le_of_ble_eq_true rfl) (fun p e s m args below meth c ls ha X J hl => ?_)
  have hx := X.1
  have hb := X.2.1
  have hl : lv_has ls 2 [(0, .ref (ad 0)), (1, .int a1_)] := hl
  generalize s.heap = H at J ⊢
  generalize ([] : List Loc) = locs at J ⊢
  show W p l e (zRm (0)) s m args below meth c H locs 0 0 (zQv D cy shR ad ts lnR below args s (r, u)) (F0 m 0 ls [])
  unfold fX12_gives at hf
  refine lv_aload_n hx hb dX12_gives_0 rfl (lv_at hl 0 rfl) ?_
  refine gf_X12_138 X J dX12_gives_1 ?_
  refine lv_aload_n hx hb dX12_gives_4 rfl (lv_at hl 0 rfl) ?_
  refine gf_X12_506 X J dX12_gives_5 ?_
  refine lv_iload_n hx hb dX12_gives_8 rfl (lv_at hl 1 rfl) ?_
  obtain ⟨hin, hf⟩ := itx hf
  refine as_X12_X12f78 X J hin dX12_gives_9 (fun σ1 H locs eq J => ?_)
  have hf := bnd_eq eq hf
  clear eq
  refine lv_aload_n hx hb dX12_gives_10 rfl (lv_at hl 0 rfl) ?_
  refine lv_dup hx hb dX12_gives_11 rfl ?_
  refine gf_X12_506 X J dX12_gives_12 ?_
  refine lv_iconst (v := (1 : Int32)) hx hb dX12_gives_15 (by decide) ?_
  refine lv_iadd hx hb dX12_gives_16 ?_
  refine pf_X12_506 X J dX12_gives_17 (fun σ2 H locs eq J => ?_)
  have hf := bnd_eq eq hf
  clear eq
  exact zr_vret X J hf dX12_gives_20
set_option maxHeartbeats 4000000 in
theorem tX12_goes   {σ u : zSt} {r : Int32} (hf : fX12_goes N  σ = some (r, u)) : zMi l yX12_goes cX12_goes 1 (some .int) (0) D cy shR ad ts lnR [.ref (ad 0)] σ r u := by
  refine zM_of (by decide) (Nat.le_of_ble_eq_true rfl) (fun p e s m args below meth c ls ha X J hl => ?_)
  have hx := X.1
  have hb := X.2.1
  have hl : lv_has ls 1 [(0, .ref (ad 0))] := hl
  generalize s.heap = H at J ⊢
  generalize ([] : List Loc) = locs at J ⊢
  show W p l e (zRm (0)) s m args below meth c H locs 0 0 (zQi D cy shR ad ts lnR below args s (r, u)) (F0 m 0 ls [])
  unfold fX12_goes at hf
  refine lv_aload_n hx hb dX12_goes_0 rfl (lv_at hl 0 rfl) ?_
  refine lv_dup hx hb dX12_goes_1 rfl ?_
  refine gf_X12_506 X J dX12_goes_2 ?_
  refine lv_iconst (v := (1 : Int32)) hx hb dX12_goes_5 (by decide) ?_
  refine lv_isub hx hb dX12_goes_6 ?_
  refine pf_X12_506 X J dX12_goes_7 (fun σ1 H locs eq J => ?_)
  have hf := bnd_eq eq hf
  clear eq
  refine lv_aload_n hx hb dX12_goes_10 rfl (lv_at hl 0 rfl) ?_
  refine gf_X12_138 X J dX12_goes_11 ?_
  refine lv_aload_n hx hb dX12_goes_14 rfl (lv_at hl 0 rfl) ?_
  refine gf_X12_506 X J dX12_goes_15 ?_
  obtain ⟨hin, hf⟩ := itx hf
  refine al_X12_X12f78 X J hin dX12_goes_18 ?_
  exact zr_iret X J hf dX12_goes_19
set_option maxHeartbeats 4000000 in
theorem tX12_where {a1_ : Int32}  {σ u : zSt} {r : Int32} (hf : fX12_where N a1_ σ = some (r, u)) : zMi l yX12_where cX12_where 3 (some .int) (0) D cy shR ad ts lnR [.ref (ad 0), .int a1_] σ r u := by
  refine zM_of (by decide) (Nat.le_of_ble_eq_true rfl) (fun p e s m args below meth c ls ha X J hl => ?_)
  have hx := X.1
  have hb := X.2.1
  have hl : lv_has ls 3 [(0, .ref (ad 0)), (1, .int a1_)] := hl
  generalize s.heap = H at J ⊢
  generalize ([] : List Loc) = locs at J ⊢
  show W p l e (zRm (0)) s m args below meth c H locs 0 0 (zQi D cy shR ad ts lnR below args s (r, u)) (F0 m 0 ls [])
  unfold fX12_where at hf
  refine lv_aload_n hx hb dX12_where_0 rfl (lv_at hl 0 rfl) ?_
  refine gf_X12_38 X J dX12_where_1 ?_
  refine lv_aload_n hx hb dX12_where_4 rfl (lv_at hl 0 rfl) ?_
  refine gf_X12_153 X J dX12_where_5 ?_
  refine lv_aload_n hx hb dX12_where_8 rfl (lv_at hl 0 rfl) ?_
  refine gf_X12_512 X J dX12_where_9 ?_
  refine lv_iconst (v := (1 : Int32)) hx hb dX12_where_12 (by decide) ?_
  refine lv_isub hx hb dX12_where_13 ?_
  obtain ⟨hin, hf⟩ := itx hf
  refine al_X12_X12f86 X J hin dX12_where_14 ?_
  obtain ⟨hin, hf⟩ := itx hf
  refine al_X12_X12f26 X J hin dX12_where_15 ?_
  refine lv_topi (fun x1 eq => ?_)
  have hf := bnd_eq eq hf
  clear eq
  refine lv_istore_n hx hb dX12_where_16 rfl hl (by decide) rfl (fun ls hl => ?_)
  have hl : lv_has ls 3 [(2, .int x1), (0, .ref (ad 0)), (1, .int a1_)] := hl
  refine lv_aload_n hx hb dX12_where_17 rfl (lv_at hl 1 rfl) ?_
  refine gf_X12_150 X J dX12_where_18 ?_
  refine lv_aload_n hx hb dX12_where_21 rfl (lv_at hl 1 rfl) ?_
  refine gf_X12_512 X J dX12_where_22 ?_
  refine lv_iconst (v := (1 : Int32)) hx hb dX12_where_25 (by decide) ?_
  refine lv_isub hx hb dX12_where_26 ?_
  obtain ⟨hin, hf⟩ := itx hf
  refine al_X12_X12f85 X J hin dX12_where_27 ?_
  refine lv_iload_n hx hb dX12_where_28 rfl (lv_at hl 2 rfl) ?_
  refine lv_if_ge hx hb dX12_where_29 rfl (fun h => ?_) (fun h => ?_)
  · have hf := itp h hf
    refine lv_iload_n hx hb dX12_where_40 rfl (lv_at hl 0 rfl) ?_
    refine lv_iload_n hx hb dX12_where_41 rfl (lv_at hl 2 rfl) ?_
    refine lv_iadd hx hb dX12_where_42 ?_
    refine lv_iadd hx hb dX12_where_43 ?_
    exact zr_iret X J hf dX12_where_44
  · have hf := itn h hf
    refine lv_iload_n hx hb dX12_where_32 rfl (lv_at hl 2 rfl) ?_
    refine lv_iconst (v := (2 : Int32)) hx hb dX12_where_33 (by decide) ?_
    refine lv_iadd hx hb dX12_where_34 ?_
    refine lv_iload_n hx hb dX12_where_35 rfl (lv_at hl 0 rfl) ?_
    refine lv_iadd hx hb dX12_where_36 ?_
    refine lv_goto hx hb dX12_where_37 rfl ?_
    refine lv_iadd hx hb dX12_where_43 ?_
    exact zr_iret X J hf dX12_where_44
set_option maxHeartbeats 4000000 in
theorem bX12_enters_90 {o : Unit × zSt} (X : zX p s m args meth c D cy shR ad ts cX12_enters 3 none RX12)  : ∀ (n : Nat) (x1_ : Int32) (x2_ : Int32) (σ : zSt) (H : Heap) (locs : List Loc) (ls : Array Slot), zJ D cy shR ad lnR s σ H locs → lv_has ls 3 [(0, .ref (ad 0)), (1, .int x1_), (2, .int x2_)] → fX12_enters_b90 N  n x1_ x2_ σ = some o → W p l e (zRm (1)) s m args below meth c H locs 0 0 (zQv D cy shR ad ts lnR below args s o) (F0 m 90 ls []) := by
  have hx := X.1
  have hb := X.2.1
  intro n
  induction n with
  | zero =>
    intro x1_ x2_ σ H locs ls J hl hf
    rw [fX12_enters_b90] at hf
    cases hf
  | succ n ih =>
    intro x1_ x2_ σ H locs ls J hl hf
    rw [fX12_enters_b90] at hf
    refine lv_iload_n hx hb dX12_enters_90 rfl (lv_at hl 2 rfl) ?_
    refine lv_aload_n hx hb dX12_enters_91 rfl (lv_at hl 0 rfl) ?_
    refine gf_X12_44 X J dX12_enters_92 ?_
    refine lv_iload_n hx hb dX12_enters_95 rfl (lv_at hl 1 rfl) ?_
    obtain ⟨hin, hf⟩ := itx hf
    refine al_X12_X12f28 X J hin dX12_enters_96 ?_
    refine lv_icmp_ge hx hb dX12_enters_97 rfl (fun h => ?_) (fun h => ?_)
    · have hf := itp h hf
      refine lv_aload_n hx hb dX12_enters_125 rfl (lv_at hl 0 rfl) ?_
      refine lv_dup hx hb dX12_enters_126 rfl ?_
      refine gf_X12_515 X J dX12_enters_127 ?_
      refine lv_aload_n hx hb dX12_enters_130 rfl (lv_at hl 0 rfl) ?_
      refine gf_X12_38 X J dX12_enters_131 ?_
      refine lv_iload_n hx hb dX12_enters_134 rfl (lv_at hl 1 rfl) ?_
      obtain ⟨hin, hf⟩ := itx hf
      refine al_X12_X12f26 X J hin dX12_enters_135 ?_
      refine lv_aload_n hx hb dX12_enters_136 rfl (lv_at hl 0 rfl) ?_
      refine gf_X12_44 X J dX12_enters_137 ?_
      refine lv_iload_n hx hb dX12_enters_140 rfl (lv_at hl 1 rfl) ?_
      obtain ⟨hin, hf⟩ := itx hf
      refine al_X12_X12f28 X J hin dX12_enters_141 ?_
      refine lv_iadd hx hb dX12_enters_142 ?_
      refine lv_iadd hx hb dX12_enters_143 ?_
      refine pf_X12_515 X J dX12_enters_144 (fun σ7 H locs eq J => ?_)
      have hf := bnd_eq eq hf
      clear eq
      refine lv_aload_n hx hb dX12_enters_147 rfl (lv_at hl 0 rfl) ?_
      refine lv_bipush (v := (6 : Int32)) hx hb dX12_enters_148 (by decide) ?_
      refine lv_iload_n hx hb dX12_enters_150 rfl (lv_at hl 1 rfl) ?_
      obtain ⟨r8, σ9, hc, hf⟩ := obd_some hf
      refine zr_callv (As := [.int (6 : Int32), .int x1_]) (rest := []) X J 0 ho_R_X12.1 ho_R_X12.2.1 ho_R_X12.2.2 yy_X12_push mw_methodLink_TinyCModel_518_TinyCModel_push_IIV (d := 0) (zR_ok (by omega) (by decide)) hl.1 rfl (Nat.le_of_ble_eq_true rfl) (tX12_push  hc) dX12_enters_151 (fun H locs J => ?_)
      refine lv_aload_n hx hb dX12_enters_154 rfl (lv_at hl 0 rfl) ?_
      refine lv_bipush (v := (8 : Int32)) hx hb dX12_enters_155 (by decide) ?_
      refine lv_aload_n hx hb dX12_enters_157 rfl (lv_at hl 0 rfl) ?_
      refine gf_X12_41 X J dX12_enters_158 ?_
      refine lv_iload_n hx hb dX12_enters_161 rfl (lv_at hl 1 rfl) ?_
      obtain ⟨hin, hf⟩ := itx hf
      refine al_X12_X12f27 X J hin dX12_enters_162 ?_
      obtain ⟨r10, σ11, hc, hf⟩ := obd_some hf
      refine zr_callv (As := [.int (8 : Int32), .int (zA σ9 11 x1_.toNatClampNeg)]) (rest := []) X J 0 ho_R_X12.1 ho_R_X12.2.1 ho_R_X12.2.2 yy_X12_push mw_methodLink_TinyCModel_518_TinyCModel_push_IIV (d := 0) (zR_ok (by omega) (by decide)) hl.1 rfl (Nat.le_of_ble_eq_true rfl) (tX12_push  hc) dX12_enters_163 (fun H locs J => ?_)
      exact zr_vret X J hf dX12_enters_166
    · have hf := itn h hf
      refine lv_aload_n hx hb dX12_enters_100 rfl (lv_at hl 0 rfl) ?_
      refine gf_X12_147 X J dX12_enters_101 ?_
      refine lv_aload_n hx hb dX12_enters_104 rfl (lv_at hl 0 rfl) ?_
      refine gf_X12_515 X J dX12_enters_105 ?_
      refine lv_aload_n hx hb dX12_enters_108 rfl (lv_at hl 0 rfl) ?_
      refine gf_X12_38 X J dX12_enters_109 ?_
      refine lv_iload_n hx hb dX12_enters_112 rfl (lv_at hl 1 rfl) ?_
      obtain ⟨hin, hf⟩ := itx hf
      refine al_X12_X12f26 X J hin dX12_enters_113 ?_
      refine lv_iadd hx hb dX12_enters_114 ?_
      refine lv_iload_n hx hb dX12_enters_115 rfl (lv_at hl 2 rfl) ?_
      refine lv_iadd hx hb dX12_enters_116 ?_
      refine lv_iconst (v := (0 : Int32)) hx hb dX12_enters_117 (by decide) ?_
      obtain ⟨hin, hf⟩ := itx hf
      refine as_X12_X12f83 X J hin dX12_enters_118 (fun σ12 H locs eq J => ?_)
      have hf := bnd_eq eq hf
      clear eq
      obtain ⟨x13, eq⟩ : ∃ z, z = x2_ + (1 : Int32) := ⟨_, rfl⟩
      have hf := bnd_eq eq hf
      refine lv_iinc hx hb dX12_enters_119 hl (k := 2) rfl (v := x13) (by rw [eq]; rfl) (by decide) rfl (fun ls hl => ?_)
      clear eq
      have hl : lv_has ls 3 [(2, .int x13), (0, .ref (ad 0)), (1, .int x1_)] := hl
      refine lv_goto hx hb dX12_enters_122 rfl ?_
      exact ih _ _ _ _ _ _ J (lv_sub hl [1, 2, 0] rfl) hf
set_option maxHeartbeats 4000000 in
theorem bX12_enters_50 {o : Unit × zSt} (X : zX p s m args meth c D cy shR ad ts cX12_enters 3 none RX12)  : ∀ (n : Nat) (x1_ : Int32) (x2_ : Int32) (σ : zSt) (H : Heap) (locs : List Loc) (ls : Array Slot), zJ D cy shR ad lnR s σ H locs → lv_has ls 3 [(0, .ref (ad 0)), (1, .int x1_), (2, .int x2_)] → fX12_enters_b50 N  n x1_ x2_ σ = some o → W p l e (zRm (1)) s m args below meth c H locs 0 0 (zQv D cy shR ad ts lnR below args s o) (F0 m 50 ls []) := by
  have hx := X.1
  have hb := X.2.1
  intro n
  induction n with
  | zero =>
    intro x1_ x2_ σ H locs ls J hl hf
    rw [fX12_enters_b50] at hf
    cases hf
  | succ n ih =>
    intro x1_ x2_ σ H locs ls J hl hf
    rw [fX12_enters_b50] at hf
    refine lv_iload_n hx hb dX12_enters_50 rfl (lv_at hl 2 rfl) ?_
    refine lv_aload_n hx hb dX12_enters_51 rfl (lv_at hl 0 rfl) ?_
    refine gf_X12_38 X J dX12_enters_52 ?_
    refine lv_iload_n hx hb dX12_enters_55 rfl (lv_at hl 1 rfl) ?_
    obtain ⟨hin, hf⟩ := itx hf
    refine al_X12_X12f26 X J hin dX12_enters_56 ?_
    refine lv_icmp_ge hx hb dX12_enters_57 rfl (fun h => ?_) (fun h => ?_)
    · have hf := itp h hf
      refine lv_iconst (v := (0 : Int32)) hx hb dX12_enters_88 (by decide) ?_
      refine lv_topi (fun x6 eq => ?_)
      have hf := bnd_eq eq hf
      clear eq
      refine lv_istore_n hx hb dX12_enters_89 rfl hl (by decide) rfl (fun ls hl => ?_)
      have hl : lv_has ls 3 [(2, .int x6), (0, .ref (ad 0)), (1, .int x1_)] := hl
      exact bX12_enters_90 X  N _ _ _ _ _ _ J (lv_sub hl [1, 2, 0] rfl) hf
    · have hf := itn h hf
      refine lv_aload_n hx hb dX12_enters_60 rfl (lv_at hl 0 rfl) ?_
      refine gf_X12_147 X J dX12_enters_61 ?_
      refine lv_aload_n hx hb dX12_enters_64 rfl (lv_at hl 0 rfl) ?_
      refine gf_X12_515 X J dX12_enters_65 ?_
      refine lv_iload_n hx hb dX12_enters_68 rfl (lv_at hl 2 rfl) ?_
      refine lv_iadd hx hb dX12_enters_69 ?_
      refine lv_aload_n hx hb dX12_enters_70 rfl (lv_at hl 0 rfl) ?_
      refine gf_X12_138 X J dX12_enters_71 ?_
      refine lv_aload_n hx hb dX12_enters_74 rfl (lv_at hl 0 rfl) ?_
      refine gf_X12_506 X J dX12_enters_75 ?_
      refine lv_iload_n hx hb dX12_enters_78 rfl (lv_at hl 2 rfl) ?_
      refine lv_iadd hx hb dX12_enters_79 ?_
      obtain ⟨hin, hf⟩ := itx hf
      refine al_X12_X12f78 X J hin dX12_enters_80 ?_
      obtain ⟨hin, hf⟩ := itx hf
      refine as_X12_X12f83 X J hin dX12_enters_81 (fun σ14 H locs eq J => ?_)
      have hf := bnd_eq eq hf
      clear eq
      obtain ⟨x15, eq⟩ : ∃ z, z = x2_ + (1 : Int32) := ⟨_, rfl⟩
      have hf := bnd_eq eq hf
      refine lv_iinc hx hb dX12_enters_82 hl (k := 2) rfl (v := x15) (by rw [eq]; rfl) (by decide) rfl (fun ls hl => ?_)
      clear eq
      have hl : lv_has ls 3 [(2, .int x15), (0, .ref (ad 0)), (1, .int x1_)] := hl
      refine lv_goto hx hb dX12_enters_85 rfl ?_
      exact ih _ _ _ _ _ _ J (lv_sub hl [1, 2, 0] rfl) hf
set_option maxHeartbeats 4000000 in
theorem tX12_enters {a1_ : Int32}  {σ u : zSt} {r : Unit} (hf : fX12_enters N a1_ σ = some (r, u)) : zMv l yX12_enters cX12_enters 3 none (1) D cy shR ad ts lnR [.ref (ad 0), .int a1_] σ u := by
  refine zM_of (by decide) (Nat.le_of_ble_eq_true rfl) (fun p e s m args below meth c ls ha X J hl => ?_)
  have hx := X.1
  have hb := X.2.1
  have hl : lv_has ls 3 [(0, .ref (ad 0)), (1, .int a1_)] := hl
  generalize s.heap = H at J ⊢
  generalize ([] : List Loc) = locs at J ⊢
  show W p l e (zRm (1)) s m args below meth c H locs 0 0 (zQv D cy shR ad ts lnR below args s (r, u)) (F0 m 0 ls [])
  unfold fX12_enters at hf
  refine lv_aload_n hx hb dX12_enters_0 rfl (lv_at hl 0 rfl) ?_
  refine gf_X12_150 X J dX12_enters_1 ?_
  refine lv_aload_n hx hb dX12_enters_4 rfl (lv_at hl 0 rfl) ?_
  refine gf_X12_512 X J dX12_enters_5 ?_
  refine lv_aload_n hx hb dX12_enters_8 rfl (lv_at hl 0 rfl) ?_
  refine gf_X12_515 X J dX12_enters_9 ?_
  obtain ⟨hin, hf⟩ := itx hf
  refine as_X12_X12f85 X J hin dX12_enters_12 (fun σ1 H locs eq J => ?_)
  have hf := bnd_eq eq hf
  clear eq
  refine lv_aload_n hx hb dX12_enters_13 rfl (lv_at hl 0 rfl) ?_
  refine gf_X12_153 X J dX12_enters_14 ?_
  refine lv_aload_n hx hb dX12_enters_17 rfl (lv_at hl 0 rfl) ?_
  refine gf_X12_512 X J dX12_enters_18 ?_
  refine lv_iload_n hx hb dX12_enters_21 rfl (lv_at hl 1 rfl) ?_
  obtain ⟨hin, hf⟩ := itx hf
  refine as_X12_X12f86 X J hin dX12_enters_22 (fun σ2 H locs eq J => ?_)
  have hf := bnd_eq eq hf
  clear eq
  refine lv_aload_n hx hb dX12_enters_23 rfl (lv_at hl 0 rfl) ?_
  refine lv_dup hx hb dX12_enters_24 rfl ?_
  refine gf_X12_512 X J dX12_enters_25 ?_
  refine lv_iconst (v := (1 : Int32)) hx hb dX12_enters_28 (by decide) ?_
  refine lv_iadd hx hb dX12_enters_29 ?_
  refine pf_X12_512 X J dX12_enters_30 (fun σ3 H locs eq J => ?_)
  have hf := bnd_eq eq hf
  clear eq
  refine lv_aload_n hx hb dX12_enters_33 rfl (lv_at hl 0 rfl) ?_
  refine lv_dup hx hb dX12_enters_34 rfl ?_
  refine gf_X12_506 X J dX12_enters_35 ?_
  refine lv_aload_n hx hb dX12_enters_38 rfl (lv_at hl 0 rfl) ?_
  refine gf_X12_38 X J dX12_enters_39 ?_
  refine lv_iload_n hx hb dX12_enters_42 rfl (lv_at hl 1 rfl) ?_
  obtain ⟨hin, hf⟩ := itx hf
  refine al_X12_X12f26 X J hin dX12_enters_43 ?_
  refine lv_isub hx hb dX12_enters_44 ?_
  refine pf_X12_506 X J dX12_enters_45 (fun σ4 H locs eq J => ?_)
  have hf := bnd_eq eq hf
  clear eq
  refine lv_iconst (v := (0 : Int32)) hx hb dX12_enters_48 (by decide) ?_
  refine lv_topi (fun x5 eq => ?_)
  have hf := bnd_eq eq hf
  clear eq
  refine lv_istore_n hx hb dX12_enters_49 rfl hl (by decide) rfl (fun ls hl => ?_)
  have hl : lv_has ls 3 [(2, .int x5), (0, .ref (ad 0)), (1, .int a1_)] := hl
  exact bX12_enters_50 X  N _ _ _ _ _ _ J (lv_sub hl [1, 2, 0] rfl) hf
set_option maxHeartbeats 4000000 in
theorem bX12_parts_26 {o : Unit × zSt} (X : zX p s m args meth c D cy shR ad ts cX12_parts 5 none RX12)  : ∀ (n : Nat) (x2_ : Int32) (x3_ : Int32) (x4_ : Int32) (σ : zSt) (H : Heap) (locs : List Loc) (ls : Array Slot), zJ D cy shR ad lnR s σ H locs → lv_has ls 5 [(0, .ref (ad 0)), (2, .int x2_), (3, .int x3_), (4, .int x4_)] → fX12_parts_b26 N  n x2_ x3_ x4_ σ = some o → W p l e (zRm (0)) s m args below meth c H locs 0 0 (zQv D cy shR ad ts lnR below args s o) (F0 m 26 ls []) := by
  have hx := X.1
  have hb := X.2.1
  intro n
  induction n with
  | zero =>
    intro x2_ x3_ x4_ σ H locs ls J hl hf
    rw [fX12_parts_b26] at hf
    cases hf
  | succ n ih =>
    intro x2_ x3_ x4_ σ H locs ls J hl hf
    rw [fX12_parts_b26] at hf
    refine lv_iload hx hb dX12_parts_26 (lv_at hl 3 rfl) ?_
    refine lv_if_lt hx hb dX12_parts_28 rfl (fun h => ?_) (fun h => ?_)
    · have hf := itp h hf
      refine lv_aload_n hx hb dX12_parts_71 rfl (lv_at hl 0 rfl) ?_
      refine lv_dup hx hb dX12_parts_72 rfl ?_
      refine gf_X12_509 X J dX12_parts_73 ?_
      refine lv_iload_n hx hb dX12_parts_76 rfl (lv_at hl 1 rfl) ?_
      refine lv_iadd hx hb dX12_parts_77 ?_
      refine pf_X12_509 X J dX12_parts_78 (fun σ2 H locs eq J => ?_)
      have hf := bnd_eq eq hf
      clear eq
      exact zr_vret X J hf dX12_parts_81
    · have hf := itn h hf
      obtain ⟨x3, eq⟩ : ∃ z, z = x3_ + (-1 : Int32) := ⟨_, rfl⟩
      have hf := bnd_eq eq hf
      refine lv_iinc hx hb dX12_parts_31 hl (k := 2) rfl (v := x3) (by rw [eq]; rfl) (by decide) rfl (fun ls hl => ?_)
      clear eq
      have hl : lv_has ls 5 [(3, .int x3), (0, .ref (ad 0)), (2, .int x2_), (4, .int x4_)] := hl
      refine lv_aload_n hx hb dX12_parts_34 rfl (lv_at hl 1 rfl) ?_
      refine gf_X12_141 X J dX12_parts_35 ?_
      refine lv_aload_n hx hb dX12_parts_38 rfl (lv_at hl 1 rfl) ?_
      refine gf_X12_509 X J dX12_parts_39 ?_
      refine lv_iload_n hx hb dX12_parts_42 rfl (lv_at hl 0 rfl) ?_
      refine lv_iadd hx hb dX12_parts_43 ?_
      refine lv_iconst (v := (2 : Int32)) hx hb dX12_parts_44 (by decide) ?_
      obtain ⟨hin, hf⟩ := itx hf
      refine as_X12_X12f80 X J hin dX12_parts_45 (fun σ4 H locs eq J => ?_)
      have hf := bnd_eq eq hf
      clear eq
      refine lv_aload_n hx hb dX12_parts_46 rfl (lv_at hl 1 rfl) ?_
      refine gf_X12_144 X J dX12_parts_47 ?_
      refine lv_aload_n hx hb dX12_parts_50 rfl (lv_at hl 1 rfl) ?_
      refine gf_X12_509 X J dX12_parts_51 ?_
      refine lv_iload_n hx hb dX12_parts_54 rfl (lv_at hl 0 rfl) ?_
      refine lv_iadd hx hb dX12_parts_55 ?_
      refine lv_iload hx hb dX12_parts_56 (lv_at hl 3 rfl) ?_
      obtain ⟨hin, hf⟩ := itx hf
      refine as_X12_X12f81 X J hin dX12_parts_58 (fun σ5 H locs eq J => ?_)
      have hf := bnd_eq eq hf
      clear eq
      refine lv_aload_n hx hb dX12_parts_59 rfl (lv_at hl 1 rfl) ?_
      refine gf_X12_71 X J dX12_parts_60 ?_
      refine lv_iload hx hb dX12_parts_63 (lv_at hl 3 rfl) ?_
      obtain ⟨hin, hf⟩ := itx hf
      refine al_X12_X12f45 X J hin dX12_parts_65 ?_
      refine lv_topi (fun x6 eq => ?_)
      have hf := bnd_eq eq hf
      clear eq
      refine lv_istore hx hb dX12_parts_66 hl (by decide) rfl (fun ls hl => ?_)
      have hl : lv_has ls 5 [(4, .int x6), (3, .int x3), (0, .ref (ad 0)), (2, .int x2_)] := hl
      refine lv_goto hx hb dX12_parts_68 rfl ?_
      exact ih _ _ _ _ _ _ _ J (lv_sub hl [2, 3, 1, 0] rfl) hf
set_option maxHeartbeats 4000000 in
theorem bX12_parts_4 {o : Unit × zSt} (X : zX p s m args meth c D cy shR ad ts cX12_parts 5 none RX12)  : ∀ (n : Nat) (x1_ : Int32) (x2_ : Int32) (x3_ : Int32) (σ : zSt) (H : Heap) (locs : List Loc) (ls : Array Slot), zJ D cy shR ad lnR s σ H locs → lv_has ls 5 [(0, .ref (ad 0)), (1, .int x1_), (2, .int x2_), (3, .int x3_)] → fX12_parts_b4 N  n x1_ x2_ x3_ σ = some o → W p l e (zRm (0)) s m args below meth c H locs 0 0 (zQv D cy shR ad ts lnR below args s o) (F0 m 4 ls []) := by
  have hx := X.1
  have hb := X.2.1
  intro n
  induction n with
  | zero =>
    intro x1_ x2_ x3_ σ H locs ls J hl hf
    rw [fX12_parts_b4] at hf
    cases hf
  | succ n ih =>
    intro x1_ x2_ x3_ σ H locs ls J hl hf
    rw [fX12_parts_b4] at hf
    refine lv_iload_n hx hb dX12_parts_4 rfl (lv_at hl 3 rfl) ?_
    refine lv_if_lt hx hb dX12_parts_5 rfl (fun h => ?_) (fun h => ?_)
    · have hf := itp h hf
      refine lv_iload_n hx hb dX12_parts_21 rfl (lv_at hl 2 rfl) ?_
      refine lv_istore_n hx hb dX12_parts_22 rfl hl (by decide) rfl (fun ls hl => ?_)
      have hl : lv_has ls 5 [(3, .int x2_), (0, .ref (ad 0)), (1, .int x1_), (2, .int x2_)] := hl
      refine lv_iload_n hx hb dX12_parts_23 rfl (lv_at hl 2 rfl) ?_
      refine lv_istore hx hb dX12_parts_24 hl (by decide) rfl (fun ls hl => ?_)
      have hl : lv_has ls 5 [(4, .int x1_), (3, .int x2_), (0, .ref (ad 0)), (1, .int x1_), (2, .int x2_)] := hl
      exact bX12_parts_26 X  N _ _ _ _ _ _ _ J (lv_sub hl [2, 4, 1, 0] rfl) hf
    · have hf := itn h hf
      obtain ⟨x7, eq⟩ : ∃ z, z = x2_ + (1 : Int32) := ⟨_, rfl⟩
      have hf := bnd_eq eq hf
      refine lv_iinc hx hb dX12_parts_8 hl (k := 2) rfl (v := x7) (by rw [eq]; rfl) (by decide) rfl (fun ls hl => ?_)
      clear eq
      have hl : lv_has ls 5 [(2, .int x7), (0, .ref (ad 0)), (1, .int x1_), (3, .int x3_)] := hl
      refine lv_aload_n hx hb dX12_parts_11 rfl (lv_at hl 1 rfl) ?_
      refine gf_X12_71 X J dX12_parts_12 ?_
      refine lv_iload_n hx hb dX12_parts_15 rfl (lv_at hl 3 rfl) ?_
      obtain ⟨hin, hf⟩ := itx hf
      refine al_X12_X12f45 X J hin dX12_parts_16 ?_
      refine lv_topi (fun x8 eq => ?_)
      have hf := bnd_eq eq hf
      clear eq
      refine lv_istore_n hx hb dX12_parts_17 rfl hl (by decide) rfl (fun ls hl => ?_)
      have hl : lv_has ls 5 [(3, .int x8), (2, .int x7), (0, .ref (ad 0)), (1, .int x1_)] := hl
      refine lv_goto hx hb dX12_parts_18 rfl ?_
      exact ih _ _ _ _ _ _ _ J (lv_sub hl [2, 3, 1, 0] rfl) hf
set_option maxHeartbeats 4000000 in
theorem tX12_parts {a1_ : Int32}  {σ u : zSt} {r : Unit} (hf : fX12_parts N a1_ σ = some (r, u)) : zMv l yX12_parts cX12_parts 5 none (0) D cy shR ad ts lnR [.ref (ad 0), .int a1_] σ u := by
  refine zM_of (by decide) (Nat.le_of_ble_eq_true rfl) (fun p e s m args below meth c ls ha X J hl => ?_)
  have hx := X.1
  have hb := X.2.1
  have hl : lv_has ls 5 [(0, .ref (ad 0)), (1, .int a1_)] := hl
  generalize s.heap = H at J ⊢
  generalize ([] : List Loc) = locs at J ⊢
  show W p l e (zRm (0)) s m args below meth c H locs 0 0 (zQv D cy shR ad ts lnR below args s (r, u)) (F0 m 0 ls [])
  unfold fX12_parts at hf
  refine lv_iconst (v := (0 : Int32)) hx hb dX12_parts_0 (by decide) ?_
  refine lv_topi (fun x1 eq => ?_)
  have hf := bnd_eq eq hf
  clear eq
  refine lv_istore_n hx hb dX12_parts_1 rfl hl (by decide) rfl (fun ls hl => ?_)
  have hl : lv_has ls 5 [(2, .int x1), (0, .ref (ad 0)), (1, .int a1_)] := hl
  refine lv_iload_n hx hb dX12_parts_2 rfl (lv_at hl 2 rfl) ?_
  refine lv_istore_n hx hb dX12_parts_3 rfl hl (by decide) rfl (fun ls hl => ?_)
  have hl : lv_has ls 5 [(3, .int a1_), (2, .int x1), (0, .ref (ad 0)), (1, .int a1_)] := hl
  exact bX12_parts_4 X  N _ _ _ _ _ _ _ J (lv_sub hl [2, 3, 1, 0] rfl) hf
set_option maxHeartbeats 4000000 in
theorem tX12_begins {a1_ : Int32}  {σ u : zSt} {r : Unit} (hf : fX12_begins N a1_ σ = some (r, u)) : zMv l yX12_begins cX12_begins 2 none (1) D cy shR ad ts lnR [.ref (ad 0), .int a1_] σ u := by
  refine zM_of (by decide) (Nat.le_of_ble_eq_true rfl) (fun p e s m args below meth c ls ha X J hl => ?_)
  have hx := X.1
  have hb := X.2.1
  have hl : lv_has ls 2 [(0, .ref (ad 0)), (1, .int a1_)] := hl
  generalize s.heap = H at J ⊢
  generalize ([] : List Loc) = locs at J ⊢
  show W p l e (zRm (1)) s m args below meth c H locs 0 0 (zQv D cy shR ad ts lnR below args s (r, u)) (F0 m 0 ls [])
  unfold fX12_begins at hf
  refine lv_aload_n hx hb dX12_begins_0 rfl (lv_at hl 0 rfl) ?_
  refine gf_X12_53 X J dX12_begins_1 ?_
  refine lv_iload_n hx hb dX12_begins_4 rfl (lv_at hl 1 rfl) ?_
  obtain ⟨hin, hf⟩ := itx hf
  refine al_X12_X12f39 X J hin dX12_begins_5 ?_
  refine lv_topi (fun x1 eq => ?_)
  have hf := bnd_eq eq hf
  clear eq
  by_cases h0_ : x1 = (1 : Int32)
  · have hf := itp h0_ hf
    rw [h0_]
    refine lv_tableIn hx hb dX12_begins_6 (by decide) (by decide) (tgt := 60) (by rfl) (by decide) ?_
    refine lv_aload_n hx hb dX12_begins_60 rfl (lv_at hl 0 rfl) ?_
    refine lv_aload_n hx hb dX12_begins_61 rfl (lv_at hl 0 rfl) ?_
    refine gf_X12_65 X J dX12_begins_62 ?_
    refine lv_iload_n hx hb dX12_begins_65 rfl (lv_at hl 1 rfl) ?_
    obtain ⟨hin, hf⟩ := itx hf
    refine al_X12_X12f43 X J hin dX12_begins_66 ?_
    obtain ⟨r2, σ3, hc, hf⟩ := obd_some hf
    refine zr_callv (As := [.int (zA σ 19 a1_.toNatClampNeg)]) (rest := []) X J 0 ho_R_X12.1 ho_R_X12.2.1 ho_R_X12.2.2 yy_X12_gives mw_methodLink_TinyCModel_577_TinyCModel_gives_IV (d := 0) (zR_ok (by omega) (by decide)) hl.1 rfl (Nat.le_of_ble_eq_true rfl) (tX12_gives  hc) dX12_begins_67 (fun H locs J => ?_)
    refine lv_goto hx hb dX12_begins_70 rfl ?_
    exact zr_vret X J hf dX12_begins_245
  have hf := itn h0_ hf
  by_cases h1_ : x1 = (2 : Int32)
  · have hf := itp h1_ hf
    rw [h1_]
    refine lv_tableIn hx hb dX12_begins_6 (by decide) (by decide) (tgt := 73) (by rfl) (by decide) ?_
    refine lv_aload_n hx hb dX12_begins_73 rfl (lv_at hl 0 rfl) ?_
    refine lv_aload_n hx hb dX12_begins_74 rfl (lv_at hl 0 rfl) ?_
    refine gf_X12_135 X J dX12_begins_75 ?_
    refine lv_aload_n hx hb dX12_begins_78 rfl (lv_at hl 0 rfl) ?_
    refine gf_X12_65 X J dX12_begins_79 ?_
    refine lv_iload_n hx hb dX12_begins_82 rfl (lv_at hl 1 rfl) ?_
    obtain ⟨hin, hf⟩ := itx hf
    refine al_X12_X12f43 X J hin dX12_begins_83 ?_
    obtain ⟨hin, hf⟩ := itx hf
    refine al_X12_X12f77 X J hin dX12_begins_84 ?_
    obtain ⟨r4, σ5, hc, hf⟩ := obd_some hf
    refine zr_callv (As := [.int (zA σ 42 (zA σ 19 a1_.toNatClampNeg).toNatClampNeg)]) (rest := []) X J 0 ho_R_X12.1 ho_R_X12.2.1 ho_R_X12.2.2 yy_X12_gives mw_methodLink_TinyCModel_577_TinyCModel_gives_IV (d := 0) (zR_ok (by omega) (by decide)) hl.1 rfl (Nat.le_of_ble_eq_true rfl) (tX12_gives  hc) dX12_begins_85 (fun H locs J => ?_)
    refine lv_goto hx hb dX12_begins_88 rfl ?_
    exact zr_vret X J hf dX12_begins_245
  have hf := itn h1_ hf
  by_cases h2_ : x1 = (3 : Int32)
  · have hf := itp h2_ hf
    rw [h2_]
    refine lv_tableIn hx hb dX12_begins_6 (by decide) (by decide) (tgt := 91) (by rfl) (by decide) ?_
    refine lv_aload_n hx hb dX12_begins_91 rfl (lv_at hl 0 rfl) ?_
    refine lv_aload_n hx hb dX12_begins_92 rfl (lv_at hl 0 rfl) ?_
    refine gf_X12_147 X J dX12_begins_93 ?_
    refine lv_aload_n hx hb dX12_begins_96 rfl (lv_at hl 0 rfl) ?_
    refine lv_aload_n hx hb dX12_begins_97 rfl (lv_at hl 0 rfl) ?_
    refine gf_X12_65 X J dX12_begins_98 ?_
    refine lv_iload_n hx hb dX12_begins_101 rfl (lv_at hl 1 rfl) ?_
    obtain ⟨hin, hf⟩ := itx hf
    refine al_X12_X12f43 X J hin dX12_begins_102 ?_
    obtain ⟨r6, σ7, hc, hf⟩ := obd_some hf
    refine zr_calli (As := [.int (zA σ 19 a1_.toNatClampNeg)]) (rest := [.ref (ad 46), .ref (ad 0)]) X J 0 ho_R_X12.1 ho_R_X12.2.1 ho_R_X12.2.2 yy_X12_where mw_methodLink_TinyCModel_589_TinyCModel_where_II (d := 0) (zR_ok (by omega) (by decide)) hl.1 rfl (Nat.le_of_ble_eq_true rfl) (tX12_where  hc) dX12_begins_103 (fun H locs J => ?_)
    obtain ⟨hin, hf⟩ := itx hf
    refine al_X12_X12f83 X J hin dX12_begins_106 ?_
    obtain ⟨r8, σ9, hc, hf⟩ := obd_some hf
    refine zr_callv (As := [.int (zA σ7 46 r6.toNatClampNeg)]) (rest := []) X J 0 ho_R_X12.1 ho_R_X12.2.1 ho_R_X12.2.2 yy_X12_gives mw_methodLink_TinyCModel_577_TinyCModel_gives_IV (d := 0) (zR_ok (by omega) (by decide)) hl.1 rfl (Nat.le_of_ble_eq_true rfl) (tX12_gives  hc) dX12_begins_107 (fun H locs J => ?_)
    refine lv_goto hx hb dX12_begins_110 rfl ?_
    exact zr_vret X J hf dX12_begins_245
  have hf := itn h2_ hf
  by_cases h3_ : x1 = (4 : Int32)
  · have hf := itp h3_ hf
    rw [h3_]
    refine lv_tableIn hx hb dX12_begins_6 (by decide) (by decide) (tgt := 158) (by rfl) (by decide) ?_
    refine lv_aload_n hx hb dX12_begins_158 rfl (lv_at hl 0 rfl) ?_
    refine lv_iconst (v := (3 : Int32)) hx hb dX12_begins_159 (by decide) ?_
    refine lv_iload_n hx hb dX12_begins_160 rfl (lv_at hl 1 rfl) ?_
    obtain ⟨r10, σ11, hc, hf⟩ := obd_some hf
    refine zr_callv (As := [.int (3 : Int32), .int a1_]) (rest := []) X J 0 ho_R_X12.1 ho_R_X12.2.1 ho_R_X12.2.2 yy_X12_push mw_methodLink_TinyCModel_518_TinyCModel_push_IIV (d := 0) (zR_ok (by omega) (by decide)) hl.1 rfl (Nat.le_of_ble_eq_true rfl) (tX12_push  hc) dX12_begins_161 (fun H locs J => ?_)
    refine lv_aload_n hx hb dX12_begins_164 rfl (lv_at hl 0 rfl) ?_
    refine lv_iconst (v := (2 : Int32)) hx hb dX12_begins_165 (by decide) ?_
    refine lv_aload_n hx hb dX12_begins_166 rfl (lv_at hl 0 rfl) ?_
    refine gf_X12_56 X J dX12_begins_167 ?_
    refine lv_iload_n hx hb dX12_begins_170 rfl (lv_at hl 1 rfl) ?_
    obtain ⟨hin, hf⟩ := itx hf
    refine al_X12_X12f40 X J hin dX12_begins_171 ?_
    obtain ⟨r12, σ13, hc, hf⟩ := obd_some hf
    refine zr_callv (As := [.int (2 : Int32), .int (zA σ11 16 a1_.toNatClampNeg)]) (rest := []) X J 0 ho_R_X12.1 ho_R_X12.2.1 ho_R_X12.2.2 yy_X12_push mw_methodLink_TinyCModel_518_TinyCModel_push_IIV (d := 0) (zR_ok (by omega) (by decide)) hl.1 rfl (Nat.le_of_ble_eq_true rfl) (tX12_push  hc) dX12_begins_172 (fun H locs J => ?_)
    refine lv_goto hx hb dX12_begins_175 rfl ?_
    exact zr_vret X J hf dX12_begins_245
  have hf := itn h3_ hf
  by_cases h4_ : x1 = (5 : Int32)
  · have hf := itp h4_ hf
    rw [h4_]
    refine lv_tableIn hx hb dX12_begins_6 (by decide) (by decide) (tgt := 158) (by rfl) (by decide) ?_
    refine lv_aload_n hx hb dX12_begins_158 rfl (lv_at hl 0 rfl) ?_
    refine lv_iconst (v := (3 : Int32)) hx hb dX12_begins_159 (by decide) ?_
    refine lv_iload_n hx hb dX12_begins_160 rfl (lv_at hl 1 rfl) ?_
    obtain ⟨r14, σ15, hc, hf⟩ := obd_some hf
    refine zr_callv (As := [.int (3 : Int32), .int a1_]) (rest := []) X J 0 ho_R_X12.1 ho_R_X12.2.1 ho_R_X12.2.2 yy_X12_push mw_methodLink_TinyCModel_518_TinyCModel_push_IIV (d := 0) (zR_ok (by omega) (by decide)) hl.1 rfl (Nat.le_of_ble_eq_true rfl) (tX12_push  hc) dX12_begins_161 (fun H locs J => ?_)
    refine lv_aload_n hx hb dX12_begins_164 rfl (lv_at hl 0 rfl) ?_
    refine lv_iconst (v := (2 : Int32)) hx hb dX12_begins_165 (by decide) ?_
    refine lv_aload_n hx hb dX12_begins_166 rfl (lv_at hl 0 rfl) ?_
    refine gf_X12_56 X J dX12_begins_167 ?_
    refine lv_iload_n hx hb dX12_begins_170 rfl (lv_at hl 1 rfl) ?_
    obtain ⟨hin, hf⟩ := itx hf
    refine al_X12_X12f40 X J hin dX12_begins_171 ?_
    obtain ⟨r16, σ17, hc, hf⟩ := obd_some hf
    refine zr_callv (As := [.int (2 : Int32), .int (zA σ15 16 a1_.toNatClampNeg)]) (rest := []) X J 0 ho_R_X12.1 ho_R_X12.2.1 ho_R_X12.2.2 yy_X12_push mw_methodLink_TinyCModel_518_TinyCModel_push_IIV (d := 0) (zR_ok (by omega) (by decide)) hl.1 rfl (Nat.le_of_ble_eq_true rfl) (tX12_push  hc) dX12_begins_172 (fun H locs J => ?_)
    refine lv_goto hx hb dX12_begins_175 rfl ?_
    exact zr_vret X J hf dX12_begins_245
  have hf := itn h4_ hf
  by_cases h5_ : x1 = (6 : Int32)
  · have hf := itp h5_ hf
    rw [h5_]
    refine lv_tableIn hx hb dX12_begins_6 (by decide) (by decide) (tgt := 178) (by rfl) (by decide) ?_
    refine lv_aload_n hx hb dX12_begins_178 rfl (lv_at hl 0 rfl) ?_
    refine lv_iconst (v := (3 : Int32)) hx hb dX12_begins_179 (by decide) ?_
    refine lv_iload_n hx hb dX12_begins_180 rfl (lv_at hl 1 rfl) ?_
    obtain ⟨r18, σ19, hc, hf⟩ := obd_some hf
    refine zr_callv (As := [.int (3 : Int32), .int a1_]) (rest := []) X J 0 ho_R_X12.1 ho_R_X12.2.1 ho_R_X12.2.2 yy_X12_push mw_methodLink_TinyCModel_518_TinyCModel_push_IIV (d := 0) (zR_ok (by omega) (by decide)) hl.1 rfl (Nat.le_of_ble_eq_true rfl) (tX12_push  hc) dX12_begins_181 (fun H locs J => ?_)
    refine lv_aload_n hx hb dX12_begins_184 rfl (lv_at hl 0 rfl) ?_
    refine lv_iconst (v := (2 : Int32)) hx hb dX12_begins_185 (by decide) ?_
    refine lv_aload_n hx hb dX12_begins_186 rfl (lv_at hl 0 rfl) ?_
    refine gf_X12_59 X J dX12_begins_187 ?_
    refine lv_iload_n hx hb dX12_begins_190 rfl (lv_at hl 1 rfl) ?_
    obtain ⟨hin, hf⟩ := itx hf
    refine al_X12_X12f41 X J hin dX12_begins_191 ?_
    obtain ⟨r20, σ21, hc, hf⟩ := obd_some hf
    refine zr_callv (As := [.int (2 : Int32), .int (zA σ19 17 a1_.toNatClampNeg)]) (rest := []) X J 0 ho_R_X12.1 ho_R_X12.2.1 ho_R_X12.2.2 yy_X12_push mw_methodLink_TinyCModel_518_TinyCModel_push_IIV (d := 0) (zR_ok (by omega) (by decide)) hl.1 rfl (Nat.le_of_ble_eq_true rfl) (tX12_push  hc) dX12_begins_192 (fun H locs J => ?_)
    refine lv_aload_n hx hb dX12_begins_195 rfl (lv_at hl 0 rfl) ?_
    refine lv_iconst (v := (2 : Int32)) hx hb dX12_begins_196 (by decide) ?_
    refine lv_aload_n hx hb dX12_begins_197 rfl (lv_at hl 0 rfl) ?_
    refine gf_X12_56 X J dX12_begins_198 ?_
    refine lv_iload_n hx hb dX12_begins_201 rfl (lv_at hl 1 rfl) ?_
    obtain ⟨hin, hf⟩ := itx hf
    refine al_X12_X12f40 X J hin dX12_begins_202 ?_
    obtain ⟨r22, σ23, hc, hf⟩ := obd_some hf
    refine zr_callv (As := [.int (2 : Int32), .int (zA σ21 16 a1_.toNatClampNeg)]) (rest := []) X J 0 ho_R_X12.1 ho_R_X12.2.1 ho_R_X12.2.2 yy_X12_push mw_methodLink_TinyCModel_518_TinyCModel_push_IIV (d := 0) (zR_ok (by omega) (by decide)) hl.1 rfl (Nat.le_of_ble_eq_true rfl) (tX12_push  hc) dX12_begins_203 (fun H locs J => ?_)
    refine lv_goto hx hb dX12_begins_206 rfl ?_
    exact zr_vret X J hf dX12_begins_245
  have hf := itn h5_ hf
  by_cases h6_ : x1 = (7 : Int32)
  · have hf := itp h6_ hf
    rw [h6_]
    refine lv_tableIn hx hb dX12_begins_6 (by decide) (by decide) (tgt := 209) (by rfl) (by decide) ?_
    refine lv_aload_n hx hb dX12_begins_209 rfl (lv_at hl 0 rfl) ?_
    refine lv_iconst (v := (4 : Int32)) hx hb dX12_begins_210 (by decide) ?_
    refine lv_iload_n hx hb dX12_begins_211 rfl (lv_at hl 1 rfl) ?_
    obtain ⟨r24, σ25, hc, hf⟩ := obd_some hf
    refine zr_callv (As := [.int (4 : Int32), .int a1_]) (rest := []) X J 0 ho_R_X12.1 ho_R_X12.2.1 ho_R_X12.2.2 yy_X12_push mw_methodLink_TinyCModel_518_TinyCModel_push_IIV (d := 0) (zR_ok (by omega) (by decide)) hl.1 rfl (Nat.le_of_ble_eq_true rfl) (tX12_push  hc) dX12_begins_212 (fun H locs J => ?_)
    refine lv_aload_n hx hb dX12_begins_215 rfl (lv_at hl 0 rfl) ?_
    refine lv_iconst (v := (2 : Int32)) hx hb dX12_begins_216 (by decide) ?_
    refine lv_aload_n hx hb dX12_begins_217 rfl (lv_at hl 0 rfl) ?_
    refine gf_X12_56 X J dX12_begins_218 ?_
    refine lv_iload_n hx hb dX12_begins_221 rfl (lv_at hl 1 rfl) ?_
    obtain ⟨hin, hf⟩ := itx hf
    refine al_X12_X12f40 X J hin dX12_begins_222 ?_
    obtain ⟨r26, σ27, hc, hf⟩ := obd_some hf
    refine zr_callv (As := [.int (2 : Int32), .int (zA σ25 16 a1_.toNatClampNeg)]) (rest := []) X J 0 ho_R_X12.1 ho_R_X12.2.1 ho_R_X12.2.2 yy_X12_push mw_methodLink_TinyCModel_518_TinyCModel_push_IIV (d := 0) (zR_ok (by omega) (by decide)) hl.1 rfl (Nat.le_of_ble_eq_true rfl) (tX12_push  hc) dX12_begins_223 (fun H locs J => ?_)
    refine lv_goto hx hb dX12_begins_226 rfl ?_
    exact zr_vret X J hf dX12_begins_245
  have hf := itn h6_ hf
  by_cases h7_ : x1 = (8 : Int32)
  · have hf := itp h7_ hf
    rw [h7_]
    refine lv_tableIn hx hb dX12_begins_6 (by decide) (by decide) (tgt := 209) (by rfl) (by decide) ?_
    refine lv_aload_n hx hb dX12_begins_209 rfl (lv_at hl 0 rfl) ?_
    refine lv_iconst (v := (4 : Int32)) hx hb dX12_begins_210 (by decide) ?_
    refine lv_iload_n hx hb dX12_begins_211 rfl (lv_at hl 1 rfl) ?_
    obtain ⟨r28, σ29, hc, hf⟩ := obd_some hf
    refine zr_callv (As := [.int (4 : Int32), .int a1_]) (rest := []) X J 0 ho_R_X12.1 ho_R_X12.2.1 ho_R_X12.2.2 yy_X12_push mw_methodLink_TinyCModel_518_TinyCModel_push_IIV (d := 0) (zR_ok (by omega) (by decide)) hl.1 rfl (Nat.le_of_ble_eq_true rfl) (tX12_push  hc) dX12_begins_212 (fun H locs J => ?_)
    refine lv_aload_n hx hb dX12_begins_215 rfl (lv_at hl 0 rfl) ?_
    refine lv_iconst (v := (2 : Int32)) hx hb dX12_begins_216 (by decide) ?_
    refine lv_aload_n hx hb dX12_begins_217 rfl (lv_at hl 0 rfl) ?_
    refine gf_X12_56 X J dX12_begins_218 ?_
    refine lv_iload_n hx hb dX12_begins_221 rfl (lv_at hl 1 rfl) ?_
    obtain ⟨hin, hf⟩ := itx hf
    refine al_X12_X12f40 X J hin dX12_begins_222 ?_
    obtain ⟨r30, σ31, hc, hf⟩ := obd_some hf
    refine zr_callv (As := [.int (2 : Int32), .int (zA σ29 16 a1_.toNatClampNeg)]) (rest := []) X J 0 ho_R_X12.1 ho_R_X12.2.1 ho_R_X12.2.2 yy_X12_push mw_methodLink_TinyCModel_518_TinyCModel_push_IIV (d := 0) (zR_ok (by omega) (by decide)) hl.1 rfl (Nat.le_of_ble_eq_true rfl) (tX12_push  hc) dX12_begins_223 (fun H locs J => ?_)
    refine lv_goto hx hb dX12_begins_226 rfl ?_
    exact zr_vret X J hf dX12_begins_245
  have hf := itn h7_ hf
  by_cases h8_ : x1 = (9 : Int32)
  · have hf := itp h8_ hf
    rw [h8_]
    refine lv_tableIn hx hb dX12_begins_6 (by decide) (by decide) (tgt := 229) (by rfl) (by decide) ?_
    refine lv_aload_n hx hb dX12_begins_229 rfl (lv_at hl 0 rfl) ?_
    refine lv_iconst (v := (1 : Int32)) hx hb dX12_begins_230 (by decide) ?_
    refine lv_iload_n hx hb dX12_begins_231 rfl (lv_at hl 1 rfl) ?_
    obtain ⟨r32, σ33, hc, hf⟩ := obd_some hf
    refine zr_callv (As := [.int (1 : Int32), .int a1_]) (rest := []) X J 0 ho_R_X12.1 ho_R_X12.2.1 ho_R_X12.2.2 yy_X12_push mw_methodLink_TinyCModel_518_TinyCModel_push_IIV (d := 0) (zR_ok (by omega) (by decide)) hl.1 rfl (Nat.le_of_ble_eq_true rfl) (tX12_push  hc) dX12_begins_232 (fun H locs J => ?_)
    refine lv_aload_n hx hb dX12_begins_235 rfl (lv_at hl 0 rfl) ?_
    refine lv_aload_n hx hb dX12_begins_236 rfl (lv_at hl 0 rfl) ?_
    refine gf_X12_56 X J dX12_begins_237 ?_
    refine lv_iload_n hx hb dX12_begins_240 rfl (lv_at hl 1 rfl) ?_
    obtain ⟨hin, hf⟩ := itx hf
    refine al_X12_X12f40 X J hin dX12_begins_241 ?_
    obtain ⟨r34, σ35, hc, hf⟩ := obd_some hf
    refine zr_callv (As := [.int (zA σ33 16 a1_.toNatClampNeg)]) (rest := []) X J 0 ho_R_X12.1 ho_R_X12.2.1 ho_R_X12.2.2 yy_X12_parts mw_methodLink_TinyCModel_592_TinyCModel_parts_IV (d := 0) (zR_ok (by omega) (by decide)) hl.1 rfl (Nat.le_of_ble_eq_true rfl) (tX12_parts  hc) dX12_begins_242 (fun H locs J => ?_)
    exact zr_vret X J hf dX12_begins_245
  have hf := itn h8_ hf
  by_cases h9_ : x1 = (10 : Int32)
  · have hf := itp h9_ hf
    rw [h9_]
    refine lv_tableIn hx hb dX12_begins_6 (by decide) (by decide) (tgt := 113) (by rfl) (by decide) ?_
    refine lv_aload_n hx hb dX12_begins_113 rfl (lv_at hl 0 rfl) ?_
    refine gf_X12_503 X J dX12_begins_114 ?_
    refine lv_aload_n hx hb dX12_begins_117 rfl (lv_at hl 0 rfl) ?_
    refine gf_X12_482 X J dX12_begins_118 ?_
    refine lv_icmp_ne hx hb dX12_begins_121 rfl (fun h => ?_) (fun h => ?_)
    · have hf := itn h hf
      refine lv_aload_n hx hb dX12_begins_132 rfl (lv_at hl 0 rfl) ?_
      refine lv_aload_n hx hb dX12_begins_133 rfl (lv_at hl 0 rfl) ?_
      refine gf_X12_19 X J dX12_begins_134 ?_
      refine lv_aload_n hx hb dX12_begins_137 rfl (lv_at hl 0 rfl) ?_
      refine gf_X12_503 X J dX12_begins_138 ?_
      obtain ⟨hin, hf⟩ := itx hf
      refine al_X12_X12f9 X J hin dX12_begins_141 ?_
      obtain ⟨r36, σ37, hc, hf⟩ := obd_some hf
      refine zr_callv (As := [.int (zA σ 4 (zI σ 0 12).toNatClampNeg)]) (rest := []) X J 0 ho_R_X12.1 ho_R_X12.2.1 ho_R_X12.2.2 yy_X12_gives mw_methodLink_TinyCModel_577_TinyCModel_gives_IV (d := 0) (zR_ok (by omega) (by decide)) hl.1 rfl (Nat.le_of_ble_eq_true rfl) (tX12_gives  hc) dX12_begins_142 (fun H locs J => ?_)
      refine lv_aload_n hx hb dX12_begins_145 rfl (lv_at hl 0 rfl) ?_
      refine lv_dup hx hb dX12_begins_146 rfl ?_
      refine gf_X12_503 X J dX12_begins_147 ?_
      refine lv_iconst (v := (1 : Int32)) hx hb dX12_begins_150 (by decide) ?_
      refine lv_iadd hx hb dX12_begins_151 ?_
      refine pf_X12_503 X J dX12_begins_152 (fun σ38 H locs eq J => ?_)
      have hf := bnd_eq eq hf
      clear eq
      refine lv_goto hx hb dX12_begins_155 rfl ?_
      exact zr_vret X J hf dX12_begins_245
    · have hf := itp h hf
      refine lv_aload_n hx hb dX12_begins_124 rfl (lv_at hl 0 rfl) ?_
      refine lv_iconst (v := (5 : Int32)) hx hb dX12_begins_125 (by decide) ?_
      refine pf_X12_494 X J dX12_begins_126 (fun σ39 H locs eq J => ?_)
      have hf := bnd_eq eq hf
      clear eq
      refine lv_goto hx hb dX12_begins_129 rfl ?_
      exact zr_vret X J hf dX12_begins_245
  have hf := itn h9_ hf
  refine lv_tableOut hx hb dX12_begins_6 (tgt := 229) (by have := lv_neT h0_ (a := 1) (by decide); have := lv_neT h1_ (a := 2) (by decide); have := lv_neT h2_ (a := 3) (by decide); have := lv_neT h3_ (a := 4) (by decide); have := lv_neT h4_ (a := 5) (by decide); have := lv_neT h5_ (a := 6) (by decide); have := lv_neT h6_ (a := 7) (by decide); have := lv_neT h7_ (a := 8) (by decide); have := lv_neT h8_ (a := 9) (by decide); have := lv_neT h9_ (a := 10) (by decide); omega) (by decide) ?_
  refine lv_aload_n hx hb dX12_begins_229 rfl (lv_at hl 0 rfl) ?_
  refine lv_iconst (v := (1 : Int32)) hx hb dX12_begins_230 (by decide) ?_
  refine lv_iload_n hx hb dX12_begins_231 rfl (lv_at hl 1 rfl) ?_
  obtain ⟨r40, σ41, hc, hf⟩ := obd_some hf
  refine zr_callv (As := [.int (1 : Int32), .int a1_]) (rest := []) X J 0 ho_R_X12.1 ho_R_X12.2.1 ho_R_X12.2.2 yy_X12_push mw_methodLink_TinyCModel_518_TinyCModel_push_IIV (d := 0) (zR_ok (by omega) (by decide)) hl.1 rfl (Nat.le_of_ble_eq_true rfl) (tX12_push  hc) dX12_begins_232 (fun H locs J => ?_)
  refine lv_aload_n hx hb dX12_begins_235 rfl (lv_at hl 0 rfl) ?_
  refine lv_aload_n hx hb dX12_begins_236 rfl (lv_at hl 0 rfl) ?_
  refine gf_X12_56 X J dX12_begins_237 ?_
  refine lv_iload_n hx hb dX12_begins_240 rfl (lv_at hl 1 rfl) ?_
  obtain ⟨hin, hf⟩ := itx hf
  refine al_X12_X12f40 X J hin dX12_begins_241 ?_
  obtain ⟨r42, σ43, hc, hf⟩ := obd_some hf
  refine zr_callv (As := [.int (zA σ41 16 a1_.toNatClampNeg)]) (rest := []) X J 0 ho_R_X12.1 ho_R_X12.2.1 ho_R_X12.2.2 yy_X12_parts mw_methodLink_TinyCModel_592_TinyCModel_parts_IV (d := 0) (zR_ok (by omega) (by decide)) hl.1 rfl (Nat.le_of_ble_eq_true rfl) (tX12_parts  hc) dX12_begins_242 (fun H locs J => ?_)
  exact zr_vret X J hf dX12_begins_245
set_option maxHeartbeats 4000000 in
theorem bX12_ops_113 {o : Unit × zSt} (X : zX p s m args meth c D cy shR ad ts cX12_ops 4 none RX12)  {x1_ : Int32} {x2_ : Int32} {x3_ : Int32}  {σ : zSt} {H : Heap} {locs : List Loc} {ls : Array Slot} (J : zJ D cy shR ad lnR s σ H locs) (hl : lv_has ls 4 [(0, .ref (ad 0)), (1, .int x1_), (2, .int x2_), (3, .int x3_)]) (hf : fX12_ops_b113 N  x1_ x2_ x3_ σ = some o) : W p l e (zRm (1)) s m args below meth c H locs 0 0 (zQv D cy shR ad ts lnR below args s o) (F0 m 113 ls []) := by
  have hx := X.1
  have hb := X.2.1
  unfold fX12_ops_b113 at hf
  refine lv_aload_n hx hb dX12_ops_113 rfl (lv_at hl 0 rfl) ?_
  refine lv_aload_n hx hb dX12_ops_114 rfl (lv_at hl 0 rfl) ?_
  refine gf_X12_65 X J dX12_ops_115 ?_
  refine lv_iload_n hx hb dX12_ops_118 rfl (lv_at hl 1 rfl) ?_
  obtain ⟨hin, hf⟩ := itx hf
  refine al_X12_X12f43 X J hin dX12_ops_119 ?_
  refine lv_iload_n hx hb dX12_ops_120 rfl (lv_at hl 3 rfl) ?_
  refine lv_iload_n hx hb dX12_ops_121 rfl (lv_at hl 2 rfl) ?_
  obtain ⟨r5, σ6, hc, hf⟩ := obd_some hf
  refine zr_callSi (As := [.int (zA σ 19 x1_.toNatClampNeg), .int x3_, .int x2_]) (rest := [.ref (ad 0)]) X J yy_X12_binary_ mw_methodLink_TinyCModel_553_TinyCModel_binary_IIII (d := 0) (zR_ok (by omega) (by decide)) hl.1 rfl (Nat.le_of_ble_eq_true rfl) (tX12_binary_  hc) dX12_ops_122 (fun H locs J => ?_)
  obtain ⟨r7, σ8, hc, hf⟩ := obd_some hf
  refine zr_callv (As := [.int r5]) (rest := []) X J 0 ho_R_X12.1 ho_R_X12.2.1 ho_R_X12.2.2 yy_X12_gives mw_methodLink_TinyCModel_577_TinyCModel_gives_IV (d := 0) (zR_ok (by omega) (by decide)) hl.1 rfl (Nat.le_of_ble_eq_true rfl) (tX12_gives  hc) dX12_ops_125 (fun H locs J => ?_)
  exact zr_vret X J hf dX12_ops_128
set_option maxHeartbeats 4000000 in
theorem bX12_ops_29 {o : Unit × zSt} (X : zX p s m args meth c D cy shR ad ts cX12_ops 4 none RX12)    {σ : zSt} {H : Heap} {locs : List Loc} {ls : Array Slot} (J : zJ D cy shR ad lnR s σ H locs) (hl : lv_has ls 4 [(0, .ref (ad 0))]) (hf : fX12_ops_b29 N   σ = some o) : W p l e (zRm (1)) s m args below meth c H locs 0 0 (zQv D cy shR ad ts lnR below args s o) (F0 m 29 ls []) := by
  have hx := X.1
  have hb := X.2.1
  unfold fX12_ops_b29 at hf
  refine lv_aload_n hx hb dX12_ops_29 rfl (lv_at hl 0 rfl) ?_
  refine lv_iconst (v := (3 : Int32)) hx hb dX12_ops_30 (by decide) ?_
  refine pf_X12_494 X J dX12_ops_31 (fun σ16 H locs eq J => ?_)
  have hf := bnd_eq eq hf
  clear eq
  refine lv_goto hx hb dX12_ops_34 rfl ?_
  exact zr_vret X J hf dX12_ops_54
set_option maxHeartbeats 4000000 in
theorem tX12_ops {a1_ : Int32}  {σ u : zSt} {r : Unit} (hf : fX12_ops N a1_ σ = some (r, u)) : zMv l yX12_ops cX12_ops 4 none (1) D cy shR ad ts lnR [.ref (ad 0), .int a1_] σ u := by
  refine zM_of (by decide) (Nat.le_of_ble_eq_true rfl) (fun p e s m args below meth c ls ha X J hl => ?_)
  have hx := X.1
  have hb := X.2.1
  have hl : lv_has ls 4 [(0, .ref (ad 0)), (1, .int a1_)] := hl
  generalize s.heap = H at J ⊢
  generalize ([] : List Loc) = locs at J ⊢
  show W p l e (zRm (1)) s m args below meth c H locs 0 0 (zQv D cy shR ad ts lnR below args s (r, u)) (F0 m 0 ls [])
  unfold fX12_ops at hf
  refine lv_aload_n hx hb dX12_ops_0 rfl (lv_at hl 0 rfl) ?_
  refine gf_X12_53 X J dX12_ops_1 ?_
  refine lv_iload_n hx hb dX12_ops_4 rfl (lv_at hl 1 rfl) ?_
  obtain ⟨hin, hf⟩ := itx hf
  refine al_X12_X12f39 X J hin dX12_ops_5 ?_
  refine lv_iconst (v := (4 : Int32)) hx hb dX12_ops_6 (by decide) ?_
  refine lv_icmp_ne hx hb dX12_ops_7 rfl (fun h => ?_) (fun h => ?_)
  · have hf := itn h hf
    refine lv_aload_n hx hb dX12_ops_55 rfl (lv_at hl 0 rfl) ?_
    obtain ⟨r1, σ2, hc, hf⟩ := obd_some hf
    refine zr_calli (As := []) (rest := []) X J 0 ho_R_X12.1 ho_R_X12.2.1 ho_R_X12.2.2 yy_X12_goes mw_methodLink_TinyCModel_574_TinyCModel_goes_I (d := 0) (zR_ok (by omega) (by decide)) hl.1 rfl (Nat.le_of_ble_eq_true rfl) (tX12_goes  hc) dX12_ops_56 (fun H locs J => ?_)
    refine lv_istore_n hx hb dX12_ops_59 rfl hl (by decide) rfl (fun ls hl => ?_)
    have hl : lv_has ls 4 [(2, .int r1), (0, .ref (ad 0)), (1, .int a1_)] := hl
    refine lv_aload_n hx hb dX12_ops_60 rfl (lv_at hl 1 rfl) ?_
    refine gf_X12_53 X J dX12_ops_61 ?_
    refine lv_iload_n hx hb dX12_ops_64 rfl (lv_at hl 2 rfl) ?_
    obtain ⟨hin, hf⟩ := itx hf
    refine al_X12_X12f39 X J hin dX12_ops_65 ?_
    refine lv_iconst (v := (5 : Int32)) hx hb dX12_ops_66 (by decide) ?_
    refine lv_icmp_ne hx hb dX12_ops_67 rfl (fun h => ?_) (fun h => ?_)
    · have hf := itn h hf
      refine lv_aload_n hx hb dX12_ops_85 rfl (lv_at hl 1 rfl) ?_
      obtain ⟨r3, σ4, hc, hf⟩ := obd_some hf
      refine zr_calli (As := []) (rest := []) X J 0 ho_R_X12.1 ho_R_X12.2.1 ho_R_X12.2.2 yy_X12_goes mw_methodLink_TinyCModel_574_TinyCModel_goes_I (d := 0) (zR_ok (by omega) (by decide)) hl.1 rfl (Nat.le_of_ble_eq_true rfl) (tX12_goes  hc) dX12_ops_86 (fun H locs J => ?_)
      refine lv_istore_n hx hb dX12_ops_89 rfl hl (by decide) rfl (fun ls hl => ?_)
      have hl : lv_has ls 4 [(3, .int r3), (2, .int r1), (0, .ref (ad 0)), (1, .int a1_)] := hl
      refine lv_iload_n hx hb dX12_ops_90 rfl (lv_at hl 1 rfl) ?_
      refine lv_if_ne hx hb dX12_ops_91 rfl (fun h => ?_) (fun h => ?_)
      · have hf := itn h hf
        exact bX12_ops_113 X   J (lv_sub hl [2, 3, 1, 0] rfl) hf
      · have hf := itp h hf
        refine lv_aload_n hx hb dX12_ops_94 rfl (lv_at hl 2 rfl) ?_
        refine gf_X12_65 X J dX12_ops_95 ?_
        refine lv_iload_n hx hb dX12_ops_98 rfl (lv_at hl 3 rfl) ?_
        obtain ⟨hin, hf⟩ := itx hf
        refine al_X12_X12f43 X J hin dX12_ops_99 ?_
        refine lv_bipush (v := (27 : Int32)) hx hb dX12_ops_100 (by decide) ?_
        refine lv_icmp_lt hx hb dX12_ops_102 rfl (fun h => ?_) (fun h => ?_)
        · have hf := itp h hf
          exact bX12_ops_113 X   J (lv_sub hl [2, 3, 1, 0] rfl) hf
        · have hf := itn h hf
          refine lv_aload_n hx hb dX12_ops_105 rfl (lv_at hl 2 rfl) ?_
          refine lv_iconst (v := (2 : Int32)) hx hb dX12_ops_106 (by decide) ?_
          refine pf_X12_494 X J dX12_ops_107 (fun σ9 H locs eq J => ?_)
          have hf := bnd_eq eq hf
          clear eq
          refine lv_goto hx hb dX12_ops_110 rfl ?_
          exact zr_vret X J hf dX12_ops_128
    · have hf := itp h hf
      refine lv_aload_n hx hb dX12_ops_70 rfl (lv_at hl 1 rfl) ?_
      refine lv_aload_n hx hb dX12_ops_71 rfl (lv_at hl 1 rfl) ?_
      refine gf_X12_65 X J dX12_ops_72 ?_
      refine lv_iload_n hx hb dX12_ops_75 rfl (lv_at hl 2 rfl) ?_
      obtain ⟨hin, hf⟩ := itx hf
      refine al_X12_X12f43 X J hin dX12_ops_76 ?_
      refine lv_iload_n hx hb dX12_ops_77 rfl (lv_at hl 0 rfl) ?_
      obtain ⟨r10, σ11, hc, hf⟩ := obd_some hf
      refine zr_callSi (As := [.int (zA σ2 19 a1_.toNatClampNeg), .int r1]) (rest := [.ref (ad 0)]) X J yy_X12_unary mw_methodLink_TinyCModel_550_TinyCModel_unary_III (d := 0) (zR_ok (by omega) (by decide)) hl.1 rfl (Nat.le_of_ble_eq_true rfl) (tX12_unary  hc) dX12_ops_78 (fun H locs J => ?_)
      obtain ⟨r12, σ13, hc, hf⟩ := obd_some hf
      refine zr_callv (As := [.int r10]) (rest := []) X J 0 ho_R_X12.1 ho_R_X12.2.1 ho_R_X12.2.2 yy_X12_gives mw_methodLink_TinyCModel_577_TinyCModel_gives_IV (d := 0) (zR_ok (by omega) (by decide)) hl.1 rfl (Nat.le_of_ble_eq_true rfl) (tX12_gives  hc) dX12_ops_81 (fun H locs J => ?_)
      exact zr_vret X J hf dX12_ops_84
  · have hf := itp h hf
    refine lv_aload_n hx hb dX12_ops_10 rfl (lv_at hl 0 rfl) ?_
    obtain ⟨r14, σ15, hc, hf⟩ := obd_some hf
    refine zr_calli (As := []) (rest := []) X J 0 ho_R_X12.1 ho_R_X12.2.1 ho_R_X12.2.2 yy_X12_goes mw_methodLink_TinyCModel_574_TinyCModel_goes_I (d := 0) (zR_ok (by omega) (by decide)) hl.1 rfl (Nat.le_of_ble_eq_true rfl) (tX12_goes  hc) dX12_ops_11 (fun H locs J => ?_)
    refine lv_istore_n hx hb dX12_ops_14 rfl hl (by decide) rfl (fun ls hl => ?_)
    have hl : lv_has ls 4 [(2, .int r14), (0, .ref (ad 0)), (1, .int a1_)] := hl
    refine lv_iload_n hx hb dX12_ops_15 rfl (lv_at hl 0 rfl) ?_
    refine lv_if_lt hx hb dX12_ops_16 rfl (fun h => ?_) (fun h => ?_)
    · have hf := itp h hf
      exact bX12_ops_29 X   J (lv_sub hl [1] rfl) hf
    · have hf := itn h hf
      refine lv_iload_n hx hb dX12_ops_19 rfl (lv_at hl 0 rfl) ?_
      refine lv_aload_n hx hb dX12_ops_20 rfl (lv_at hl 1 rfl) ?_
      refine gf_X12_68 X J dX12_ops_21 ?_
      refine lv_iload_n hx hb dX12_ops_24 rfl (lv_at hl 2 rfl) ?_
      obtain ⟨hin, hf⟩ := itx hf
      refine al_X12_X12f44 X J hin dX12_ops_25 ?_
      refine lv_icmp_lt hx hb dX12_ops_26 rfl (fun h => ?_) (fun h => ?_)
      · have hf := itp h hf
        refine lv_aload_n hx hb dX12_ops_37 rfl (lv_at hl 1 rfl) ?_
        refine lv_aload_n hx hb dX12_ops_38 rfl (lv_at hl 1 rfl) ?_
        refine gf_X12_135 X J dX12_ops_39 ?_
        refine lv_aload_n hx hb dX12_ops_42 rfl (lv_at hl 1 rfl) ?_
        refine gf_X12_65 X J dX12_ops_43 ?_
        refine lv_iload_n hx hb dX12_ops_46 rfl (lv_at hl 2 rfl) ?_
        obtain ⟨hin, hf⟩ := itx hf
        refine al_X12_X12f43 X J hin dX12_ops_47 ?_
        refine lv_iload_n hx hb dX12_ops_48 rfl (lv_at hl 0 rfl) ?_
        refine lv_iadd hx hb dX12_ops_49 ?_
        obtain ⟨hin, hf⟩ := itx hf
        refine al_X12_X12f77 X J hin dX12_ops_50 ?_
        obtain ⟨r17, σ18, hc, hf⟩ := obd_some hf
        refine zr_callv (As := [.int (zA σ15 42 ((zA σ15 19 a1_.toNatClampNeg) + r14).toNatClampNeg)]) (rest := []) X J 0 ho_R_X12.1 ho_R_X12.2.1 ho_R_X12.2.2 yy_X12_gives mw_methodLink_TinyCModel_577_TinyCModel_gives_IV (d := 0) (zR_ok (by omega) (by decide)) hl.1 rfl (Nat.le_of_ble_eq_true rfl) (tX12_gives  hc) dX12_ops_51 (fun H locs J => ?_)
        exact zr_vret X J hf dX12_ops_54
      · have hf := itn h hf
        exact bX12_ops_29 X   J (lv_sub hl [1] rfl) hf
end
