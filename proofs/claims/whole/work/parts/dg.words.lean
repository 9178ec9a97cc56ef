theorem mv_methodLink_TinyCCode_1_javalangObject_init_V : Cond.methodLink RX0 1 objectInit ∈ gt := gt_in (List.mem_of_getElem? (i := 469) (by decide +kernel)) (by decide)
theorem mv_instanceMethod_javalangObject_init_V : Cond.instanceMethod objectInit ∈ gt := gt_in (List.mem_of_getElem? (i := 244) (by decide +kernel)) (by decide)
theorem mv_code_javalangObject_init_V : Cond.code objectInit ⟨#[0xb1]⟩ 1 none ∈ gt := gt_in (List.mem_of_getElem? (i := 245) (by decide +kernel)) (by decide)
theorem mv_arrayClass_int : Cond.arrayClass .int ∈ gt := gt_in (List.mem_of_getElem? (i := 297) (by decide +kernel)) (by decide)
theorem mv_fieldLink_TinyCCode_7_TinyCCode_cells_I : Cond.fieldLink RX0 7 RX0 "cells" "[I" ∈ gt := gt_in (List.mem_of_getElem? (i := 470) (by decide +kernel)) (by decide)
theorem mv_methodLink_TinyCTree_1_javalangObject_init_V : Cond.methodLink RX9 1 objectInit ∈ gt := gt_in (List.mem_of_getElem? (i := 440) (by decide +kernel)) (by decide)
theorem mv_fieldLink_TinyCTree_7_TinyCTree_kinds_I : Cond.fieldLink RX9 7 RX9 "kinds" "[I" ∈ gt := gt_in (List.mem_of_getElem? (i := 441) (by decide +kernel)) (by decide)
theorem mv_fieldLink_TinyCTree_13_TinyCTree_as_I : Cond.fieldLink RX9 13 RX9 "as" "[I" ∈ gt := gt_in (List.mem_of_getElem? (i := 442) (by decide +kernel)) (by decide)
theorem mv_fieldLink_TinyCTree_16_TinyCTree_bs_I : Cond.fieldLink RX9 16 RX9 "bs" "[I" ∈ gt := gt_in (List.mem_of_getElem? (i := 443) (by decide +kernel)) (by decide)
theorem mv_fieldLink_TinyCTree_19_TinyCTree_cs_I : Cond.fieldLink RX9 19 RX9 "cs" "[I" ∈ gt := gt_in (List.mem_of_getElem? (i := 444) (by decide +kernel)) (by decide)
theorem mv_fieldLink_TinyCTree_22_TinyCTree_ds_I : Cond.fieldLink RX9 22 RX9 "ds" "[I" ∈ gt := gt_in (List.mem_of_getElem? (i := 445) (by decide +kernel)) (by decide)
theorem mv_fieldLink_TinyCTree_25_TinyCTree_nexts_I : Cond.fieldLink RX9 25 RX9 "nexts" "[I" ∈ gt := gt_in (List.mem_of_getElem? (i := 446) (by decide +kernel)) (by decide)
theorem mv_methodLink_TinyCNames_1_javalangObject_init_V : Cond.methodLink RX4 1 objectInit ∈ gt := gt_in (List.mem_of_getElem? (i := 307) (by decide +kernel)) (by decide)
theorem mv_arrayClass_long : Cond.arrayClass .long ∈ gt := gt_in (List.mem_of_getElem? (i := 328) (by decide +kernel)) (by decide)
theorem mv_fieldLink_TinyCNames_7_TinyCNames_words_J : Cond.fieldLink RX4 7 RX4 "words" "[J" ∈ gt := gt_in (List.mem_of_getElem? (i := 308) (by decide +kernel)) (by decide)
theorem mv_fieldLink_TinyCNames_13_TinyCNames_sorts_I : Cond.fieldLink RX4 13 RX4 "sorts" "[I" ∈ gt := gt_in (List.mem_of_getElem? (i := 309) (by decide +kernel)) (by decide)
theorem mv_fieldLink_TinyCNames_17_TinyCNames_places_I : Cond.fieldLink RX4 17 RX4 "places" "[I" ∈ gt := gt_in (List.mem_of_getElem? (i := 310) (by decide +kernel)) (by decide)
theorem mv_fieldLink_TinyCNames_20_TinyCNames_counts_I : Cond.fieldLink RX4 20 RX4 "counts" "[I" ∈ gt := gt_in (List.mem_of_getElem? (i := 311) (by decide +kernel)) (by decide)
theorem mv_fieldLink_TinyCNames_23_TinyCNames_nodes_I : Cond.fieldLink RX4 23 RX4 "nodes" "[I" ∈ gt := gt_in (List.mem_of_getElem? (i := 312) (by decide +kernel)) (by decide)
theorem mv_methodLink_TinyCScan_3_javalangObject_init_V : Cond.methodLink RX7 3 objectInit ∈ gt := gt_in (List.mem_of_getElem? (i := 260) (by decide +kernel)) (by decide)
theorem mv_fieldLink_TinyCScan_9_TinyCScan_text_I : Cond.fieldLink RX7 9 RX7 "text" "[I" ∈ gt := gt_in (List.mem_of_getElem? (i := 261) (by decide +kernel)) (by decide)
theorem mv_methodLink_TinyCTape_1_javalangObject_init_V : Cond.methodLink RX8 1 objectInit ∈ gt := gt_in (List.mem_of_getElem? (i := 516) (by decide +kernel)) (by decide)
theorem mv_fieldLink_TinyCTape_7_TinyCTape_inputs_I : Cond.fieldLink RX8 7 RX8 "inputs" "[I" ∈ gt := gt_in (List.mem_of_getElem? (i := 517) (by decide +kernel)) (by decide)
theorem mv_fieldLink_TinyCTape_13_TinyCTape_outputs_I : Cond.fieldLink RX8 13 RX8 "outputs" "[I" ∈ gt := gt_in (List.mem_of_getElem? (i := 518) (by decide +kernel)) (by decide)
theorem mv_methodLink_TinyCMachine_3_javalangObject_init_V : Cond.methodLink RX3 3 objectInit ∈ gt := gt_in (List.mem_of_getElem? (i := 539) (by decide +kernel)) (by decide)
theorem mv_fieldLink_TinyCMachine_9_TinyCMachine_memory_I : Cond.fieldLink RX3 9 RX3 "memory" "[I" ∈ gt := gt_in (List.mem_of_getElem? (i := 540) (by decide +kernel)) (by decide)
theorem mv_fieldLink_TinyCMachine_15_TinyCMachine_tape_LTinyCTape : Cond.fieldLink RX3 15 RX3 "tape" "LTinyC$Tape;" ∈ gt := gt_in (List.mem_of_getElem? (i := 541) (by decide +kernel)) (by decide)
theorem mv_methodLink_TinyCWalker_3_javalangObject_init_V : Cond.methodLink RX10 3 objectInit ∈ gt := gt_in (List.mem_of_getElem? (i := 571) (by decide +kernel)) (by decide)
theorem mv_fieldLink_TinyCWalker_9_TinyCWalker_cells_I : Cond.fieldLink RX10 9 RX10 "cells" "I" ∈ gt := gt_in (List.mem_of_getElem? (i := 572) (by decide +kernel)) (by decide)
theorem mv_fieldLink_TinyCWalker_15_TinyCWalker_tape_LTinyCTape : Cond.fieldLink RX10 15 RX10 "tape" "LTinyC$Tape;" ∈ gt := gt_in (List.mem_of_getElem? (i := 573) (by decide +kernel)) (by decide)
theorem mv_fieldLink_TinyCWalker_19_TinyCWalker_values_I : Cond.fieldLink RX10 19 RX10 "values" "[I" ∈ gt := gt_in (List.mem_of_getElem? (i := 574) (by decide +kernel)) (by decide)
theorem mv_fieldLink_TinyCWalker_23_TinyCWalker_whats_I : Cond.fieldLink RX10 23 RX10 "whats" "[I" ∈ gt := gt_in (List.mem_of_getElem? (i := 575) (by decide +kernel)) (by decide)
theorem mv_fieldLink_TinyCWalker_26_TinyCWalker_nodes_I : Cond.fieldLink RX10 26 RX10 "nodes" "[I" ∈ gt := gt_in (List.mem_of_getElem? (i := 576) (by decide +kernel)) (by decide)
theorem mv_fieldLink_TinyCWalker_29_TinyCWalker_globals_I : Cond.fieldLink RX10 29 RX10 "globals" "[I" ∈ gt := gt_in (List.mem_of_getElem? (i := 577) (by decide +kernel)) (by decide)
theorem mv_fieldLink_TinyCWalker_32_TinyCWalker_frameCells_I : Cond.fieldLink RX10 32 RX10 "frameCells" "[I" ∈ gt := gt_in (List.mem_of_getElem? (i := 578) (by decide +kernel)) (by decide)
theorem mv_fieldLink_TinyCWalker_35_TinyCWalker_frameStarts_I : Cond.fieldLink RX10 35 RX10 "frameStarts" "[I" ∈ gt := gt_in (List.mem_of_getElem? (i := 579) (by decide +kernel)) (by decide)
theorem mv_methodLink_TinyCDesk_3_javalangObject_init_V : Cond.methodLink RX1 3 objectInit ∈ gt := gt_in (List.mem_of_getElem? (i := 332) (by decide +kernel)) (by decide)
theorem mv_fieldLink_TinyCDesk_9_TinyCDesk_scan_LTinyCScan : Cond.fieldLink RX1 9 RX1 "scan" "LTinyC$Scan;" ∈ gt := gt_in (List.mem_of_getElem? (i := 333) (by decide +kernel)) (by decide)
theorem mv_fieldLink_TinyCDesk_15_TinyCDesk_names_LTinyCNames : Cond.fieldLink RX1 15 RX1 "names" "LTinyC$Names;" ∈ gt := gt_in (List.mem_of_getElem? (i := 336) (by decide +kernel)) (by decide)
theorem mv_fieldLink_TinyCDesk_19_TinyCDesk_treeCells_I : Cond.fieldLink RX1 19 RX1 "treeCells" "I" ∈ gt := gt_in (List.mem_of_getElem? (i := 339) (by decide +kernel)) (by decide)
theorem mv_methodLink_TinyCProgram_1_javalangObject_init_V : Cond.methodLink RX5 1 objectInit ∈ gt := gt_in (List.mem_of_getElem? (i := 434) (by decide +kernel)) (by decide)
theorem mv_classLink_TinyCProgram_TinyCTree_7 : Cond.classLink RX5 7 RX9 ∈ gt := gt_in (List.mem_of_getElem? (i := 435) (by decide +kernel)) (by decide)
theorem mv_instantiable_TinyCTree_7 : Cond.instantiable RX9 7 ∈ gt := gt_in (List.mem_of_getElem? (i := 436) (by decide +kernel)) (by decide)
theorem mv_initialized_TinyCTree : Cond.initialized RX9 ∈ gt := gt_in (List.mem_of_getElem? (i := 231) (by decide +kernel)) (by decide)
theorem mv_code_TinyCTree_init_IV : Cond.code yX9_init cX9_init 2 none ∈ gt := gt_in (List.mem_of_getElem? (i := 439) (by decide +kernel)) (by decide)
theorem mv_instanceMethod_TinyCTree_init_IV : Cond.instanceMethod yX9_init ∈ gt := gt_in (List.mem_of_getElem? (i := 438) (by decide +kernel)) (by decide)
theorem mv_methodLinkNest_TinyCProgram_9_TinyCTree_init_IV_TinyC : Cond.methodLinkNest RX5 9 yX9_init "TinyC" ∈ nt := nt_in (List.mem_of_getElem? (i := 437) (by decide +kernel)) (by decide)
theorem mv_fieldLink_TinyCProgram_12_TinyCProgram_tree_LTinyCTree : Cond.fieldLink RX5 12 RX5 "tree" "LTinyC$Tree;" ∈ gt := gt_in (List.mem_of_getElem? (i := 481) (by decide +kernel)) (by decide)
theorem mv_classLink_TinyCProgram_TinyCCode_18 : Cond.classLink RX5 18 RX0 ∈ gt := gt_in (List.mem_of_getElem? (i := 464) (by decide +kernel)) (by decide)
theorem mv_instantiable_TinyCCode_2 : Cond.instantiable RX0 2 ∈ gt := gt_in (List.mem_of_getElem? (i := 465) (by decide +kernel)) (by decide)
theorem mv_initialized_TinyCCode : Cond.initialized RX0 ∈ gt := gt_in (List.mem_of_getElem? (i := 232) (by decide +kernel)) (by decide)
theorem mv_code_TinyCCode_init_IV : Cond.code yX0_init cX0_init 2 none ∈ gt := gt_in (List.mem_of_getElem? (i := 468) (by decide +kernel)) (by decide)
theorem mv_instanceMethod_TinyCCode_init_IV : Cond.instanceMethod yX0_init ∈ gt := gt_in (List.mem_of_getElem? (i := 467) (by decide +kernel)) (by decide)
theorem mv_methodLinkNest_TinyCProgram_20_TinyCCode_init_IV_TinyC : Cond.methodLinkNest RX5 20 yX0_init "TinyC" ∈ nt := nt_in (List.mem_of_getElem? (i := 466) (by decide +kernel)) (by decide)
theorem mv_fieldLink_TinyCProgram_21_TinyCProgram_code_LTinyCCode : Cond.fieldLink RX5 21 RX5 "code" "LTinyC$Code;" ∈ gt := gt_in (List.mem_of_getElem? (i := 485) (by decide +kernel)) (by decide)
theorem mv_fieldLink_TinyCProgram_25_TinyCProgram_main_I : Cond.fieldLink RX5 25 RX5 "main" "I" ∈ gt := gt_in (List.mem_of_getElem? (i := 494) (by decide +kernel)) (by decide)
theorem mv_methodLink_TinyCExpressions_3_javalangObject_init_V : Cond.methodLink RX2 3 objectInit ∈ gt := gt_in (List.mem_of_getElem? (i := 366) (by decide +kernel)) (by decide)
theorem mv_fieldLink_TinyCExpressions_9_TinyCExpressions_desk_LTinyCDesk : Cond.fieldLink RX2 9 RX2 "desk" "LTinyC$Desk;" ∈ gt := gt_in (List.mem_of_getElem? (i := 367) (by decide +kernel)) (by decide)
theorem mv_fieldLinkNest_TinyCExpressions_15_TinyCDesk_scan_LTinyCScan_TinyC : Cond.fieldLinkNest RX2 15 RX1 "scan" "LTinyC$Scan;" "TinyC" ∈ nt := nt_in (List.mem_of_getElem? (i := 335) (by decide +kernel)) (by decide)
theorem mv_fieldLink_TinyCExpressions_21_TinyCExpressions_scan_LTinyCScan : Cond.fieldLink RX2 21 RX2 "scan" "LTinyC$Scan;" ∈ gt := gt_in (List.mem_of_getElem? (i := 368) (by decide +kernel)) (by decide)
theorem mv_fieldLinkNest_TinyCExpressions_22_TinyCDesk_names_LTinyCNames_TinyC : Cond.fieldLinkNest RX2 22 RX1 "names" "LTinyC$Names;" "TinyC" ∈ nt := nt_in (List.mem_of_getElem? (i := 338) (by decide +kernel)) (by decide)
theorem mv_fieldLink_TinyCExpressions_26_TinyCExpressions_names_LTinyCNames : Cond.fieldLink RX2 26 RX2 "names" "LTinyC$Names;" ∈ gt := gt_in (List.mem_of_getElem? (i := 369) (by decide +kernel)) (by decide)
theorem mv_fieldLink_TinyCExpressions_27_TinyCExpressions_signs_I : Cond.fieldLink RX2 27 RX2 "signs" "[I" ∈ gt := gt_in (List.mem_of_getElem? (i := 370) (by decide +kernel)) (by decide)
theorem mv_fieldLink_TinyCExpressions_31_TinyCExpressions_firsts_I : Cond.fieldLink RX2 31 RX2 "firsts" "[I" ∈ gt := gt_in (List.mem_of_getElem? (i := 371) (by decide +kernel)) (by decide)
theorem mv_fieldLink_TinyCExpressions_34_TinyCExpressions_holes_I : Cond.fieldLink RX2 34 RX2 "holes" "[I" ∈ gt := gt_in (List.mem_of_getElem? (i := 372) (by decide +kernel)) (by decide)
theorem mv_methodLink_TinyCReader_3_javalangObject_init_V : Cond.methodLink RX6 3 objectInit ∈ gt := gt_in (List.mem_of_getElem? (i := 360) (by decide +kernel)) (by decide)
theorem mv_fieldLink_TinyCReader_9_TinyCReader_desk_LTinyCDesk : Cond.fieldLink RX6 9 RX6 "desk" "LTinyC$Desk;" ∈ gt := gt_in (List.mem_of_getElem? (i := 398) (by decide +kernel)) (by decide)
theorem mv_fieldLinkNest_TinyCReader_15_TinyCDesk_scan_LTinyCScan_TinyC : Cond.fieldLinkNest RX6 15 RX1 "scan" "LTinyC$Scan;" "TinyC" ∈ nt := nt_in (List.mem_of_getElem? (i := 334) (by decide +kernel)) (by decide)
theorem mv_fieldLink_TinyCReader_21_TinyCReader_scan_LTinyCScan : Cond.fieldLink RX6 21 RX6 "scan" "LTinyC$Scan;" ∈ gt := gt_in (List.mem_of_getElem? (i := 399) (by decide +kernel)) (by decide)
theorem mv_fieldLinkNest_TinyCReader_22_TinyCDesk_names_LTinyCNames_TinyC : Cond.fieldLinkNest RX6 22 RX1 "names" "LTinyC$Names;" "TinyC" ∈ nt := nt_in (List.mem_of_getElem? (i := 337) (by decide +kernel)) (by decide)
theorem mv_fieldLink_TinyCReader_26_TinyCReader_names_LTinyCNames : Cond.fieldLink RX6 26 RX6 "names" "LTinyC$Names;" ∈ gt := gt_in (List.mem_of_getElem? (i := 400) (by decide +kernel)) (by decide)
theorem mv_classLink_TinyCReader_TinyCExpressions_27 : Cond.classLink RX6 27 RX2 ∈ gt := gt_in (List.mem_of_getElem? (i := 361) (by decide +kernel)) (by decide)
theorem mv_instantiable_TinyCExpressions_10 : Cond.instantiable RX2 10 ∈ gt := gt_in (List.mem_of_getElem? (i := 362) (by decide +kernel)) (by decide)
theorem mv_initialized_TinyCExpressions : Cond.initialized RX2 ∈ gt := gt_in (List.mem_of_getElem? (i := 229) (by decide +kernel)) (by decide)
theorem mv_code_TinyCExpressions_init_LTinyCDeskV : Cond.code yX2_init cX2_init 2 none ∈ gt := gt_in (List.mem_of_getElem? (i := 365) (by decide +kernel)) (by decide)
theorem mv_instanceMethod_TinyCExpressions_init_LTinyCDeskV : Cond.instanceMethod yX2_init ∈ gt := gt_in (List.mem_of_getElem? (i := 364) (by decide +kernel)) (by decide)
theorem mv_methodLinkNest_TinyCReader_29_TinyCExpressions_init_LTinyCDeskV_TinyC : Cond.methodLinkNest RX6 29 yX2_init "TinyC" ∈ nt := nt_in (List.mem_of_getElem? (i := 363) (by decide +kernel)) (by decide)
theorem mv_fieldLink_TinyCReader_32_TinyCReader_expressions_LTinyCExpressions : Cond.fieldLink RX6 32 RX6 "expressions" "LTinyC$Expressions;" ∈ gt := gt_in (List.mem_of_getElem? (i := 401) (by decide +kernel)) (by decide)
theorem ny_X9_init : nY yX9_init cX9_init 2 1 := ⟨⟨mv_code_TinyCTree_init_IV, mv_initialized_TinyCTree, by decide +kernel⟩, mv_instanceMethod_TinyCTree_init_IV, rfl⟩
theorem ny_X0_init : nY yX0_init cX0_init 2 1 := ⟨⟨mv_code_TinyCCode_init_IV, mv_initialized_TinyCCode, by decide +kernel⟩, mv_instanceMethod_TinyCCode_init_IV, rfl⟩
theorem ny_X2_init : nY yX2_init cX2_init 2 1 := ⟨⟨mv_code_TinyCExpressions_init_LTinyCDeskV, mv_initialized_TinyCExpressions, by decide +kernel⟩, mv_instanceMethod_TinyCExpressions_init_LTinyCDeskV, rfl⟩
theorem nd_X0 : ∀ j, j < 2 → defaultValue (tyX0 j) = vp_V [.null, .int 0] j := fun j hj => by
  have h : ∀ j : Fin 2, defaultValue (tyX0 j.val) = vp_V [.null, .int 0] j.val := by decide +kernel
  exact h ⟨j, hj⟩
theorem nd_X1 : ∀ j, j < 6 → defaultValue (tyX1 j) = vp_V [.null, .null, .int 0, .int 0, .int 0, .int 0] j := fun j hj => by
  have h : ∀ j : Fin 6, defaultValue (tyX1 j.val) = vp_V [.null, .null, .int 0, .int 0, .int 0, .int 0] j.val := by decide +kernel
  exact h ⟨j, hj⟩
theorem nd_X2 : ∀ j, j < 10 → defaultValue (tyX2 j) = vp_V [.null, .null, .null, .null, .null, .null, .int 0, .int 0, .null, .null] j := fun j hj => by
  have h : ∀ j : Fin 10, defaultValue (tyX2 j.val) = vp_V [.null, .null, .null, .null, .null, .null, .int 0, .int 0, .null, .null] j.val := by decide +kernel
  exact h ⟨j, hj⟩
theorem nd_X3 : ∀ j, j < 8 → defaultValue (tyX3 j) = vp_V [.null, .null, .null, .int 0, .int 0, .int 0, .int 0, .int 0] j := fun j hj => by
  have h : ∀ j : Fin 8, defaultValue (tyX3 j.val) = vp_V [.null, .null, .null, .int 0, .int 0, .int 0, .int 0, .int 0] j.val := by decide +kernel
  exact h ⟨j, hj⟩
theorem nd_X4 : ∀ j, j < 6 → defaultValue (tyX4 j) = vp_V [.null, .null, .null, .null, .null, .int 0] j := fun j hj => by
  have h : ∀ j : Fin 6, defaultValue (tyX4 j.val) = vp_V [.null, .null, .null, .null, .null, .int 0] j.val := by decide +kernel
  exact h ⟨j, hj⟩
theorem nd_X5 : ∀ j, j < 5 → defaultValue (tyX5 j) = vp_V [.null, .null, .int 0, .int 0, .int 0] j := fun j hj => by
  have h : ∀ j : Fin 5, defaultValue (tyX5 j.val) = vp_V [.null, .null, .int 0, .int 0, .int 0] j.val := by decide +kernel
  exact h ⟨j, hj⟩
theorem nd_X6 : ∀ j, j < 10 → defaultValue (tyX6 j) = vp_V [.null, .null, .null, .null, .null, .null, .null, .int 0, .int 0, .int 0] j := fun j hj => by
  have h : ∀ j : Fin 10, defaultValue (tyX6 j.val) = vp_V [.null, .null, .null, .null, .null, .null, .null, .int 0, .int 0, .int 0] j.val := by decide +kernel
  exact h ⟨j, hj⟩
theorem nd_X7 : ∀ j, j < 8 → defaultValue (tyX7 j) = vp_V [.null, .int 0, .int 0, .int 0, .int 0, .long 0, .long 0, .int 0] j := fun j hj => by
  have h : ∀ j : Fin 8, defaultValue (tyX7 j.val) = vp_V [.null, .int 0, .int 0, .int 0, .int 0, .long 0, .long 0, .int 0] j.val := by decide +kernel
  exact h ⟨j, hj⟩
theorem nd_X8 : ∀ j, j < 5 → defaultValue (tyX8 j) = vp_V [.null, .null, .int 0, .int 0, .int 0] j := fun j hj => by
  have h : ∀ j : Fin 5, defaultValue (tyX8 j.val) = vp_V [.null, .null, .int 0, .int 0, .int 0] j.val := by decide +kernel
  exact h ⟨j, hj⟩
theorem nd_X9 : ∀ j, j < 7 → defaultValue (tyX9 j) = vp_V [.null, .null, .null, .null, .null, .null, .int 0] j := fun j hj => by
  have h : ∀ j : Fin 7, defaultValue (tyX9 j.val) = vp_V [.null, .null, .null, .null, .null, .null, .int 0] j.val := by decide +kernel
  exact h ⟨j, hj⟩
theorem nd_X10 : ∀ j, j < 16 → defaultValue (tyX10 j) = vp_V [.int 0, .null, .null, .null, .null, .null, .null, .null, .null, .int 0, .int 0, .int 0, .int 0, .int 0, .int 0, .int 0] j := fun j hj => by
  have h : ∀ j : Fin 16, defaultValue (tyX10 j.val) = vp_V [.int 0, .null, .null, .null, .null, .null, .null, .null, .null, .int 0, .int 0, .int 0, .int 0, .int 0, .int 0, .int 0] j.val := by decide +kernel
  exact h ⟨j, hj⟩
theorem nd_X11 : ∀ j, j < 7 → defaultValue (tyX11 j) = vp_V [.null, .null, .null, .null, .null, .null, .null] j := fun j hj => by
  have h : ∀ j : Fin 7, defaultValue (tyX11 j.val) = vp_V [.null, .null, .null, .null, .null, .null, .null] j.val := by decide +kernel
  exact h ⟨j, hj⟩
theorem nd_X12 : ∀ j, j < 88 → defaultValue (tyX12 j) = vp_V [.null, .int 0, .int 0, .int 0, .null, .int 0, .int 0, .null, .int 0, .null, .int 0, .int 0, .int 0, .null, .int 0, .null, .int 0, .int 0, .int 0, .int 0, .long 0, .int 0, .int 0, .null, .null, .null, .null, .null, .null, .int 0, .int 0, .null, .null, .int 0, .int 0, .int 0, .int 0, .int 0, .int 0, .null, .null, .null, .null, .null, .null, .null, .int 0, .null, .null, .null, .null, .null, .null, .null, .int 0, .null, .null, .null, .null, .null, .null, .int 0, .null, .int 0, .null, .null, .null, .null, .null, .null, .int 0, .int 0, .int 0, .int 0, .int 0, .int 0, .int 0, .null, .null, .int 0, .null, .null, .int 0, .null, .int 0, .null, .null, .int 0] j := fun j hj => by
  have h : ∀ j : Fin 88, defaultValue (tyX12 j.val) = vp_V [.null, .int 0, .int 0, .int 0, .null, .int 0, .int 0, .null, .int 0, .null, .int 0, .int 0, .int 0, .null, .int 0, .null, .int 0, .int 0, .int 0, .int 0, .long 0, .int 0, .int 0, .null, .null, .null, .null, .null, .null, .int 0, .int 0, .null, .null, .int 0, .int 0, .int 0, .int 0, .int 0, .int 0, .null, .null, .null, .null, .null, .null, .null, .int 0, .null, .null, .null, .null, .null, .null, .null, .int 0, .null, .null, .null, .null, .null, .null, .int 0, .null, .int 0, .null, .null, .null, .null, .null, .null, .int 0, .int 0, .int 0, .int 0, .int 0, .int 0, .int 0, .null, .null, .int 0, .null, .null, .int 0, .null, .int 0, .null, .null, .int 0] j.val := by decide +kernel
  exact h ⟨j, hj⟩
theorem mv_methodLink_TinyC_1_javalangObject_init_V : Cond.methodLink RX11 1 objectInit ∈ gt := gt_in (List.mem_of_getElem? (i := 243) (by decide +kernel)) (by decide)
theorem mv_code_TinyC_clip_II : Cond.code yX11_clip cX11_clip 1 (some .int) ∈ gt := gt_in (List.mem_of_getElem? (i := 248) (by decide +kernel)) (by decide)
theorem mv_initialized_TinyC : Cond.initialized RX11 ∈ gt := gt_in (List.mem_of_getElem? (i := 223) (by decide +kernel)) (by decide)
theorem mv_static_TinyC_clip_II : Cond.static yX11_clip ∈ gt := gt_in (List.mem_of_getElem? (i := 247) (by decide +kernel)) (by decide)
theorem mv_methodLink_TinyC_7_TinyC_clip_II : Cond.methodLink RX11 7 yX11_clip ∈ gt := gt_in (List.mem_of_getElem? (i := 246) (by decide +kernel)) (by decide)
theorem mv_classLink_TinyC_TinyCScan_13 : Cond.classLink RX11 13 RX7 ∈ gt := gt_in (List.mem_of_getElem? (i := 255) (by decide +kernel)) (by decide)
theorem mv_instantiable_TinyCScan_8 : Cond.instantiable RX7 8 ∈ gt := gt_in (List.mem_of_getElem? (i := 256) (by decide +kernel)) (by decide)
theorem mv_initialized_TinyCScan : Cond.initialized RX7 ∈ gt := gt_in (List.mem_of_getElem? (i := 225) (by decide +kernel)) (by decide)
theorem mv_code_TinyCScan_init_IV : Cond.code yX7_init cX7_init 2 none ∈ gt := gt_in (List.mem_of_getElem? (i := 259) (by decide +kernel)) (by decide)
theorem mv_instanceMethod_TinyCScan_init_IV : Cond.instanceMethod yX7_init ∈ gt := gt_in (List.mem_of_getElem? (i := 258) (by decide +kernel)) (by decide)
theorem mv_methodLinkNest_TinyC_15_TinyCScan_init_IV_TinyC : Cond.methodLinkNest RX11 15 yX7_init "TinyC" ∈ nt := nt_in (List.mem_of_getElem? (i := 257) (by decide +kernel)) (by decide)
theorem mv_fieldLink_TinyC_18_TinyC_scan_LTinyCScan : Cond.fieldLink RX11 18 RX11 "scan" "LTinyC$Scan;" ∈ gt := gt_in (List.mem_of_getElem? (i := 638) (by decide +kernel)) (by decide)
theorem mv_classLink_TinyC_TinyCReader_22 : Cond.classLink RX11 22 RX6 ∈ gt := gt_in (List.mem_of_getElem? (i := 298) (by decide +kernel)) (by decide)
theorem mv_instantiable_TinyCReader_10 : Cond.instantiable RX6 10 ∈ gt := gt_in (List.mem_of_getElem? (i := 299) (by decide +kernel)) (by decide)
theorem mv_initialized_TinyCReader : Cond.initialized RX6 ∈ gt := gt_in (List.mem_of_getElem? (i := 226) (by decide +kernel)) (by decide)
theorem mv_classLink_TinyC_TinyCDesk_24 : Cond.classLink RX11 24 RX1 ∈ gt := gt_in (List.mem_of_getElem? (i := 300) (by decide +kernel)) (by decide)
theorem mv_instantiable_TinyCDesk_6 : Cond.instantiable RX1 6 ∈ gt := gt_in (List.mem_of_getElem? (i := 301) (by decide +kernel)) (by decide)
theorem mv_initialized_TinyCDesk : Cond.initialized RX1 ∈ gt := gt_in (List.mem_of_getElem? (i := 227) (by decide +kernel)) (by decide)
theorem mv_classLink_TinyC_TinyCNames_26 : Cond.classLink RX11 26 RX4 ∈ gt := gt_in (List.mem_of_getElem? (i := 302) (by decide +kernel)) (by decide)
theorem mv_instantiable_TinyCNames_6 : Cond.instantiable RX4 6 ∈ gt := gt_in (List.mem_of_getElem? (i := 303) (by decide +kernel)) (by decide)
theorem mv_initialized_TinyCNames : Cond.initialized RX4 ∈ gt := gt_in (List.mem_of_getElem? (i := 228) (by decide +kernel)) (by decide)
theorem mv_code_TinyCNames_init_IV : Cond.code yX4_init cX4_init 2 none ∈ gt := gt_in (List.mem_of_getElem? (i := 306) (by decide +kernel)) (by decide)
theorem mv_instanceMethod_TinyCNames_init_IV : Cond.instanceMethod yX4_init ∈ gt := gt_in (List.mem_of_getElem? (i := 305) (by decide +kernel)) (by decide)
theorem mv_methodLinkNest_TinyC_28_TinyCNames_init_IV_TinyC : Cond.methodLinkNest RX11 28 yX4_init "TinyC" ∈ nt := nt_in (List.mem_of_getElem? (i := 304) (by decide +kernel)) (by decide)
theorem mv_code_TinyCDesk_init_LTinyCScanLTinyCNamesIV : Cond.code yX1_init cX1_init 4 none ∈ gt := gt_in (List.mem_of_getElem? (i := 331) (by decide +kernel)) (by decide)
theorem mv_instanceMethod_TinyCDesk_init_LTinyCScanLTinyCNamesIV : Cond.instanceMethod yX1_init ∈ gt := gt_in (List.mem_of_getElem? (i := 330) (by decide +kernel)) (by decide)
theorem mv_methodLinkNest_TinyC_29_TinyCDesk_init_LTinyCScanLTinyCNamesIV_TinyC : Cond.methodLinkNest RX11 29 yX1_init "TinyC" ∈ nt := nt_in (List.mem_of_getElem? (i := 329) (by decide +kernel)) (by decide)
theorem mv_code_TinyCReader_init_LTinyCDeskV : Cond.code yX6_init cX6_init 2 none ∈ gt := gt_in (List.mem_of_getElem? (i := 359) (by decide +kernel)) (by decide)
theorem mv_instanceMethod_TinyCReader_init_LTinyCDeskV : Cond.instanceMethod yX6_init ∈ gt := gt_in (List.mem_of_getElem? (i := 358) (by decide +kernel)) (by decide)
theorem mv_methodLinkNest_TinyC_32_TinyCReader_init_LTinyCDeskV_TinyC : Cond.methodLinkNest RX11 32 yX6_init "TinyC" ∈ nt := nt_in (List.mem_of_getElem? (i := 357) (by decide +kernel)) (by decide)
theorem mv_fieldLink_TinyC_35_TinyC_reader_LTinyCReader : Cond.fieldLink RX11 35 RX11 "reader" "LTinyC$Reader;" ∈ gt := gt_in (List.mem_of_getElem? (i := 639) (by decide +kernel)) (by decide)
theorem mv_classLink_TinyC_TinyCProgram_39 : Cond.classLink RX11 39 RX5 ∈ gt := gt_in (List.mem_of_getElem? (i := 429) (by decide +kernel)) (by decide)
theorem mv_instantiable_TinyCProgram_5 : Cond.instantiable RX5 5 ∈ gt := gt_in (List.mem_of_getElem? (i := 430) (by decide +kernel)) (by decide)
theorem mv_initialized_TinyCProgram : Cond.initialized RX5 ∈ gt := gt_in (List.mem_of_getElem? (i := 230) (by decide +kernel)) (by decide)
theorem mv_code_TinyCProgram_init_IIV : Cond.code yX5_init cX5_init 3 none ∈ gt := gt_in (List.mem_of_getElem? (i := 433) (by decide +kernel)) (by decide)
theorem mv_instanceMethod_TinyCProgram_init_IIV : Cond.instanceMethod yX5_init ∈ gt := gt_in (List.mem_of_getElem? (i := 432) (by decide +kernel)) (by decide)
theorem mv_methodLinkNest_TinyC_41_TinyCProgram_init_IIV_TinyC : Cond.methodLinkNest RX11 41 yX5_init "TinyC" ∈ nt := nt_in (List.mem_of_getElem? (i := 431) (by decide +kernel)) (by decide)
theorem mv_fieldLink_TinyC_44_TinyC_program_LTinyCProgram : Cond.fieldLink RX11 44 RX11 "program" "LTinyC$Program;" ∈ gt := gt_in (List.mem_of_getElem? (i := 643) (by decide +kernel)) (by decide)
theorem mv_fieldLink_TinyC_48_TinyC_spare_LTinyCProgram : Cond.fieldLink RX11 48 RX11 "spare" "LTinyC$Program;" ∈ gt := gt_in (List.mem_of_getElem? (i := 644) (by decide +kernel)) (by decide)
theorem mv_classLink_TinyC_TinyCTape_51 : Cond.classLink RX11 51 RX8 ∈ gt := gt_in (List.mem_of_getElem? (i := 511) (by decide +kernel)) (by decide)
theorem mv_instantiable_TinyCTape_5 : Cond.instantiable RX8 5 ∈ gt := gt_in (List.mem_of_getElem? (i := 512) (by decide +kernel)) (by decide)
theorem mv_initialized_TinyCTape : Cond.initialized RX8 ∈ gt := gt_in (List.mem_of_getElem? (i := 233) (by decide +kernel)) (by decide)
theorem mv_code_TinyCTape_init_IV : Cond.code yX8_init cX8_init 2 none ∈ gt := gt_in (List.mem_of_getElem? (i := 515) (by decide +kernel)) (by decide)
theorem mv_instanceMethod_TinyCTape_init_IV : Cond.instanceMethod yX8_init ∈ gt := gt_in (List.mem_of_getElem? (i := 514) (by decide +kernel)) (by decide)
theorem mv_methodLinkNest_TinyC_53_TinyCTape_init_IV_TinyC : Cond.methodLinkNest RX11 53 yX8_init "TinyC" ∈ nt := nt_in (List.mem_of_getElem? (i := 513) (by decide +kernel)) (by decide)
theorem mv_fieldLink_TinyC_54_TinyC_tape_LTinyCTape : Cond.fieldLink RX11 54 RX11 "tape" "LTinyC$Tape;" ∈ gt := gt_in (List.mem_of_getElem? (i := 640) (by decide +kernel)) (by decide)
theorem mv_classLink_TinyC_TinyCMachine_58 : Cond.classLink RX11 58 RX3 ∈ gt := gt_in (List.mem_of_getElem? (i := 534) (by decide +kernel)) (by decide)
theorem mv_instantiable_TinyCMachine_8 : Cond.instantiable RX3 8 ∈ gt := gt_in (List.mem_of_getElem? (i := 535) (by decide +kernel)) (by decide)
theorem mv_initialized_TinyCMachine : Cond.initialized RX3 ∈ gt := gt_in (List.mem_of_getElem? (i := 234) (by decide +kernel)) (by decide)
theorem mv_code_TinyCMachine_init_ILTinyCTapeV : Cond.code yX3_init cX3_init 3 none ∈ gt := gt_in (List.mem_of_getElem? (i := 538) (by decide +kernel)) (by decide)
theorem mv_instanceMethod_TinyCMachine_init_ILTinyCTapeV : Cond.instanceMethod yX3_init ∈ gt := gt_in (List.mem_of_getElem? (i := 537) (by decide +kernel)) (by decide)
theorem mv_methodLinkNest_TinyC_60_TinyCMachine_init_ILTinyCTapeV_TinyC : Cond.methodLinkNest RX11 60 yX3_init "TinyC" ∈ nt := nt_in (List.mem_of_getElem? (i := 536) (by decide +kernel)) (by decide)
theorem mv_fieldLink_TinyC_63_TinyC_machine_LTinyCMachine : Cond.fieldLink RX11 63 RX11 "machine" "LTinyC$Machine;" ∈ gt := gt_in (List.mem_of_getElem? (i := 641) (by decide +kernel)) (by decide)
theorem mv_classLink_TinyC_TinyCWalker_67 : Cond.classLink RX11 67 RX10 ∈ gt := gt_in (List.mem_of_getElem? (i := 566) (by decide +kernel)) (by decide)
theorem mv_instantiable_TinyCWalker_16 : Cond.instantiable RX10 16 ∈ gt := gt_in (List.mem_of_getElem? (i := 567) (by decide +kernel)) (by decide)
theorem mv_initialized_TinyCWalker : Cond.initialized RX10 ∈ gt := gt_in (List.mem_of_getElem? (i := 235) (by decide +kernel)) (by decide)
theorem mv_code_TinyCWalker_init_ILTinyCTapeV : Cond.code yX10_init cX10_init 3 none ∈ gt := gt_in (List.mem_of_getElem? (i := 570) (by decide +kernel)) (by decide)
theorem mv_instanceMethod_TinyCWalker_init_ILTinyCTapeV : Cond.instanceMethod yX10_init ∈ gt := gt_in (List.mem_of_getElem? (i := 569) (by decide +kernel)) (by decide)
theorem mv_methodLinkNest_TinyC_69_TinyCWalker_init_ILTinyCTapeV_TinyC : Cond.methodLinkNest RX11 69 yX10_init "TinyC" ∈ nt := nt_in (List.mem_of_getElem? (i := 568) (by decide +kernel)) (by decide)
theorem mv_fieldLink_TinyC_70_TinyC_walker_LTinyCWalker : Cond.fieldLink RX11 70 RX11 "walker" "LTinyC$Walker;" ∈ gt := gt_in (List.mem_of_getElem? (i := 642) (by decide +kernel)) (by decide)
theorem mv_methodLink_TinyCModel_1_javalangObject_init_V : Cond.methodLink RX12 1 objectInit ∈ gt := gt_in (List.mem_of_getElem? (i := 1337) (by decide +kernel)) (by decide)
theorem mv_fieldLink_TinyCModel_7_TinyCModel_text_I : Cond.fieldLink RX12 7 RX12 "text" "[I" ∈ gt := gt_in (List.mem_of_getElem? (i := 1341) (by decide +kernel)) (by decide)
theorem mv_fieldLink_TinyCModel_13_TinyCModel_code_I : Cond.fieldLink RX12 13 RX12 "code" "[I" ∈ gt := gt_in (List.mem_of_getElem? (i := 1345) (by decide +kernel)) (by decide)
theorem mv_fieldLink_TinyCModel_16_TinyCModel_memory_I : Cond.fieldLink RX12 16 RX12 "memory" "[I" ∈ gt := gt_in (List.mem_of_getElem? (i := 1348) (by decide +kernel)) (by decide)
theorem mv_fieldLink_TinyCModel_19_TinyCModel_input_I : Cond.fieldLink RX12 19 RX12 "input" "[I" ∈ gt := gt_in (List.mem_of_getElem? (i := 1350) (by decide +kernel)) (by decide)
theorem mv_fieldLink_TinyCModel_22_TinyCModel_output_I : Cond.fieldLink RX12 22 RX12 "output" "[I" ∈ gt := gt_in (List.mem_of_getElem? (i := 1354) (by decide +kernel)) (by decide)
theorem mv_fieldLink_TinyCModel_25_TinyCModel_source_I : Cond.fieldLink RX12 25 RX12 "source" "[I" ∈ gt := gt_in (List.mem_of_getElem? (i := 1356) (by decide +kernel)) (by decide)
theorem mv_fieldLink_TinyCModel_28_TinyCModel_nameOf_J : Cond.fieldLink RX12 28 RX12 "nameOf" "[J" ∈ gt := gt_in (List.mem_of_getElem? (i := 1364) (by decide +kernel)) (by decide)
theorem mv_fieldLink_TinyCModel_32_TinyCModel_sort_I : Cond.fieldLink RX12 32 RX12 "sort" "[I" ∈ gt := gt_in (List.mem_of_getElem? (i := 1365) (by decide +kernel)) (by decide)
theorem mv_fieldLink_TinyCModel_35_TinyCModel_address_I : Cond.fieldLink RX12 35 RX12 "address" "[I" ∈ gt := gt_in (List.mem_of_getElem? (i := 1366) (by decide +kernel)) (by decide)
theorem mv_fieldLink_TinyCModel_38_TinyCModel_many_I : Cond.fieldLink RX12 38 RX12 "many" "[I" ∈ gt := gt_in (List.mem_of_getElem? (i := 1367) (by decide +kernel)) (by decide)
theorem mv_fieldLink_TinyCModel_41_TinyCModel_body_I : Cond.fieldLink RX12 41 RX12 "body" "[I" ∈ gt := gt_in (List.mem_of_getElem? (i := 1368) (by decide +kernel)) (by decide)
theorem mv_fieldLink_TinyCModel_44_TinyCModel_most_I : Cond.fieldLink RX12 44 RX12 "most" "[I" ∈ gt := gt_in (List.mem_of_getElem? (i := 1369) (by decide +kernel)) (by decide)
theorem mv_fieldLink_TinyCModel_47_TinyCModel_seenName_J : Cond.fieldLink RX12 47 RX12 "seenName" "[J" ∈ gt := gt_in (List.mem_of_getElem? (i := 1372) (by decide +kernel)) (by decide)
theorem mv_fieldLink_TinyCModel_50_TinyCModel_seenPlace_I : Cond.fieldLink RX12 50 RX12 "seenPlace" "[I" ∈ gt := gt_in (List.mem_of_getElem? (i := 1373) (by decide +kernel)) (by decide)
theorem mv_fieldLink_TinyCModel_53_TinyCModel_what_I : Cond.fieldLink RX12 53 RX12 "what" "[I" ∈ gt := gt_in (List.mem_of_getElem? (i := 1380) (by decide +kernel)) (by decide)
theorem mv_fieldLink_TinyCModel_56_TinyCModel_a_I : Cond.fieldLink RX12 56 RX12 "a" "[I" ∈ gt := gt_in (List.mem_of_getElem? (i := 1381) (by decide +kernel)) (by decide)
theorem mv_fieldLink_TinyCModel_59_TinyCModel_b_I : Cond.fieldLink RX12 59 RX12 "b" "[I" ∈ gt := gt_in (List.mem_of_getElem? (i := 1382) (by decide +kernel)) (by decide)
theorem mv_fieldLink_TinyCModel_62_TinyCModel_c_I : Cond.fieldLink RX12 62 RX12 "c" "[I" ∈ gt := gt_in (List.mem_of_getElem? (i := 1383) (by decide +kernel)) (by decide)
theorem mv_fieldLink_TinyCModel_65_TinyCModel_v_I : Cond.fieldLink RX12 65 RX12 "v" "[I" ∈ gt := gt_in (List.mem_of_getElem? (i := 1384) (by decide +kernel)) (by decide)
theorem mv_fieldLink_TinyCModel_68_TinyCModel_w_I : Cond.fieldLink RX12 68 RX12 "w" "[I" ∈ gt := gt_in (List.mem_of_getElem? (i := 1385) (by decide +kernel)) (by decide)
theorem mv_fieldLink_TinyCModel_71_TinyCModel_after_I : Cond.fieldLink RX12 71 RX12 "after" "[I" ∈ gt := gt_in (List.mem_of_getElem? (i := 1386) (by decide +kernel)) (by decide)
theorem mv_fieldLink_TinyCModel_74_TinyCModel_openKind_I : Cond.fieldLink RX12 74 RX12 "openKind" "[I" ∈ gt := gt_in (List.mem_of_getElem? (i := 1388) (by decide +kernel)) (by decide)
theorem mv_fieldLink_TinyCModel_77_TinyCModel_openNode_I : Cond.fieldLink RX12 77 RX12 "openNode" "[I" ∈ gt := gt_in (List.mem_of_getElem? (i := 1389) (by decide +kernel)) (by decide)
theorem mv_fieldLink_TinyCModel_80_TinyCModel_openLast_I : Cond.fieldLink RX12 80 RX12 "openLast" "[I" ∈ gt := gt_in (List.mem_of_getElem? (i := 1390) (by decide +kernel)) (by decide)
theorem mv_arrayClass_boolean : Cond.arrayClass .boolean ∈ gt := gt_in (List.mem_of_getElem? (i := 1606) (by decide +kernel)) (by decide)
theorem mv_fieldLink_TinyCModel_83_TinyCModel_openLocals_Z : Cond.fieldLink RX12 83 RX12 "openLocals" "[Z" ∈ gt := gt_in (List.mem_of_getElem? (i := 1391) (by decide +kernel)) (by decide)
theorem mv_fieldLink_TinyCModel_87_TinyCModel_hadFrom_I : Cond.fieldLink RX12 87 RX12 "hadFrom" "[I" ∈ gt := gt_in (List.mem_of_getElem? (i := 1392) (by decide +kernel)) (by decide)
theorem mv_fieldLink_TinyCModel_90_TinyCModel_hadSeen_I : Cond.fieldLink RX12 90 RX12 "hadSeen" "[I" ∈ gt := gt_in (List.mem_of_getElem? (i := 1393) (by decide +kernel)) (by decide)
theorem mv_fieldLink_TinyCModel_93_TinyCModel_hadPlaces_I : Cond.fieldLink RX12 93 RX12 "hadPlaces" "[I" ∈ gt := gt_in (List.mem_of_getElem? (i := 1394) (by decide +kernel)) (by decide)
theorem mv_fieldLink_TinyCModel_96_TinyCModel_waitKind_I : Cond.fieldLink RX12 96 RX12 "waitKind" "[I" ∈ gt := gt_in (List.mem_of_getElem? (i := 1396) (by decide +kernel)) (by decide)
theorem mv_fieldLink_TinyCModel_99_TinyCModel_waitNode_I : Cond.fieldLink RX12 99 RX12 "waitNode" "[I" ∈ gt := gt_in (List.mem_of_getElem? (i := 1397) (by decide +kernel)) (by decide)
theorem mv_fieldLink_TinyCModel_102_TinyCModel_waitLevel_I : Cond.fieldLink RX12 102 RX12 "waitLevel" "[I" ∈ gt := gt_in (List.mem_of_getElem? (i := 1398) (by decide +kernel)) (by decide)
theorem mv_fieldLink_TinyCModel_105_TinyCModel_waitPlace_I : Cond.fieldLink RX12 105 RX12 "waitPlace" "[I" ∈ gt := gt_in (List.mem_of_getElem? (i := 1399) (by decide +kernel)) (by decide)
theorem mv_fieldLink_TinyCModel_108_TinyCModel_waitLast_I : Cond.fieldLink RX12 108 RX12 "waitLast" "[I" ∈ gt := gt_in (List.mem_of_getElem? (i := 1400) (by decide +kernel)) (by decide)
theorem mv_fieldLink_TinyCModel_111_TinyCModel_made_I : Cond.fieldLink RX12 111 RX12 "made" "[I" ∈ gt := gt_in (List.mem_of_getElem? (i := 1401) (by decide +kernel)) (by decide)
theorem mv_fieldLink_TinyCModel_114_TinyCModel_start_I : Cond.fieldLink RX12 114 RX12 "start" "[I" ∈ gt := gt_in (List.mem_of_getElem? (i := 1403) (by decide +kernel)) (by decide)
theorem mv_fieldLink_TinyCModel_117_TinyCModel_taskKind_I : Cond.fieldLink RX12 117 RX12 "taskKind" "[I" ∈ gt := gt_in (List.mem_of_getElem? (i := 1405) (by decide +kernel)) (by decide)
theorem mv_fieldLink_TinyCModel_120_TinyCModel_taskNode_I : Cond.fieldLink RX12 120 RX12 "taskNode" "[I" ∈ gt := gt_in (List.mem_of_getElem? (i := 1406) (by decide +kernel)) (by decide)
theorem mv_fieldLink_TinyCModel_123_TinyCModel_first_I : Cond.fieldLink RX12 123 RX12 "first" "[I" ∈ gt := gt_in (List.mem_of_getElem? (i := 1407) (by decide +kernel)) (by decide)
theorem mv_fieldLink_TinyCModel_126_TinyCModel_other_I : Cond.fieldLink RX12 126 RX12 "other" "[I" ∈ gt := gt_in (List.mem_of_getElem? (i := 1408) (by decide +kernel)) (by decide)
theorem mv_fieldLink_TinyCModel_129_TinyCModel_third_I : Cond.fieldLink RX12 129 RX12 "third" "[I" ∈ gt := gt_in (List.mem_of_getElem? (i := 1409) (by decide +kernel)) (by decide)
theorem mv_fieldLink_TinyCModel_132_TinyCModel_kept_I : Cond.fieldLink RX12 132 RX12 "kept" "[I" ∈ gt := gt_in (List.mem_of_getElem? (i := 1410) (by decide +kernel)) (by decide)
theorem mv_fieldLink_TinyCModel_135_TinyCModel_variable_I : Cond.fieldLink RX12 135 RX12 "variable" "[I" ∈ gt := gt_in (List.mem_of_getElem? (i := 1418) (by decide +kernel)) (by decide)
theorem mv_fieldLink_TinyCModel_138_TinyCModel_value_I : Cond.fieldLink RX12 138 RX12 "value" "[I" ∈ gt := gt_in (List.mem_of_getElem? (i := 1419) (by decide +kernel)) (by decide)
theorem mv_fieldLink_TinyCModel_141_TinyCModel_item_I : Cond.fieldLink RX12 141 RX12 "item" "[I" ∈ gt := gt_in (List.mem_of_getElem? (i := 1421) (by decide +kernel)) (by decide)
theorem mv_fieldLink_TinyCModel_144_TinyCModel_itemNode_I : Cond.fieldLink RX12 144 RX12 "itemNode" "[I" ∈ gt := gt_in (List.mem_of_getElem? (i := 1422) (by decide +kernel)) (by decide)
theorem mv_fieldLink_TinyCModel_147_TinyCModel_local_I : Cond.fieldLink RX12 147 RX12 "local" "[I" ∈ gt := gt_in (List.mem_of_getElem? (i := 1424) (by decide +kernel)) (by decide)
theorem mv_fieldLink_TinyCModel_150_TinyCModel_frameAt_I : Cond.fieldLink RX12 150 RX12 "frameAt" "[I" ∈ gt := gt_in (List.mem_of_getElem? (i := 1426) (by decide +kernel)) (by decide)
theorem mv_fieldLink_TinyCModel_153_TinyCModel_frameOf_I : Cond.fieldLink RX12 153 RX12 "frameOf" "[I" ∈ gt := gt_in (List.mem_of_getElem? (i := 1427) (by decide +kernel)) (by decide)
theorem mv_code_TinyCModel_cellsOf_II : Cond.code yX12_cellsOf cX12_cellsOf 1 (some .int) ∈ gt := gt_in (List.mem_of_getElem? (i := 1340) (by decide +kernel)) (by decide)
theorem mv_initialized_TinyCModel : Cond.initialized RX12 ∈ gt := gt_in (List.mem_of_getElem? (i := 237) (by decide +kernel)) (by decide)
theorem mv_static_TinyCModel_cellsOf_II : Cond.static yX12_cellsOf ∈ gt := gt_in (List.mem_of_getElem? (i := 1339) (by decide +kernel)) (by decide)
theorem mv_methodLink_TinyCModel_156_TinyCModel_cellsOf_II : Cond.methodLink RX12 156 yX12_cellsOf ∈ gt := gt_in (List.mem_of_getElem? (i := 1338) (by decide +kernel)) (by decide)
theorem mv_fieldLink_TinyCModel_160_TinyCModel_textCells_I : Cond.fieldLink RX12 160 RX12 "textCells" "I" ∈ gt := gt_in (List.mem_of_getElem? (i := 1342) (by decide +kernel)) (by decide)
theorem mv_fieldLink_TinyCModel_164_TinyCModel_treeCells_I : Cond.fieldLink RX12 164 RX12 "treeCells" "I" ∈ gt := gt_in (List.mem_of_getElem? (i := 1344) (by decide +kernel)) (by decide)
theorem mv_fieldLink_TinyCModel_167_TinyCModel_codeCells_I : Cond.fieldLink RX12 167 RX12 "codeCells" "I" ∈ gt := gt_in (List.mem_of_getElem? (i := 1346) (by decide +kernel)) (by decide)
theorem mv_fieldLink_TinyCModel_170_TinyCModel_memCells_I : Cond.fieldLink RX12 170 RX12 "memCells" "I" ∈ gt := gt_in (List.mem_of_getElem? (i := 1349) (by decide +kernel)) (by decide)
theorem mv_fieldLink_TinyCModel_173_TinyCModel_ioCells_I : Cond.fieldLink RX12 173 RX12 "ioCells" "I" ∈ gt := gt_in (List.mem_of_getElem? (i := 1351) (by decide +kernel)) (by decide)
theorem ny_X11_clip : zYs yX11_clip cX11_clip 1 (some .int) 1 := ⟨⟨mv_code_TinyC_clip_II, mv_initialized_TinyC, by decide +kernel⟩, mv_static_TinyC_clip_II⟩
theorem ny_X7_init : nY yX7_init cX7_init 2 1 := ⟨⟨mv_code_TinyCScan_init_IV, mv_initialized_TinyCScan, by decide +kernel⟩, mv_instanceMethod_TinyCScan_init_IV, rfl⟩
theorem ny_X4_init : nY yX4_init cX4_init 2 1 := ⟨⟨mv_code_TinyCNames_init_IV, mv_initialized_TinyCNames, by decide +kernel⟩, mv_instanceMethod_TinyCNames_init_IV, rfl⟩
theorem ny_X1_init : nY yX1_init cX1_init 4 3 := ⟨⟨mv_code_TinyCDesk_init_LTinyCScanLTinyCNamesIV, mv_initialized_TinyCDesk, by decide +kernel⟩, mv_instanceMethod_TinyCDesk_init_LTinyCScanLTinyCNamesIV, rfl⟩
theorem ny_X6_init : nY yX6_init cX6_init 2 1 := ⟨⟨mv_code_TinyCReader_init_LTinyCDeskV, mv_initialized_TinyCReader, by decide +kernel⟩, mv_instanceMethod_TinyCReader_init_LTinyCDeskV, rfl⟩
theorem ny_X5_init : nY yX5_init cX5_init 3 2 := ⟨⟨mv_code_TinyCProgram_init_IIV, mv_initialized_TinyCProgram, by decide +kernel⟩, mv_instanceMethod_TinyCProgram_init_IIV, rfl⟩
theorem ny_X8_init : nY yX8_init cX8_init 2 1 := ⟨⟨mv_code_TinyCTape_init_IV, mv_initialized_TinyCTape, by decide +kernel⟩, mv_instanceMethod_TinyCTape_init_IV, rfl⟩
theorem ny_X3_init : nY yX3_init cX3_init 3 2 := ⟨⟨mv_code_TinyCMachine_init_ILTinyCTapeV, mv_initialized_TinyCMachine, by decide +kernel⟩, mv_instanceMethod_TinyCMachine_init_ILTinyCTapeV, rfl⟩
theorem ny_X10_init : nY yX10_init cX10_init 3 2 := ⟨⟨mv_code_TinyCWalker_init_ILTinyCTapeV, mv_initialized_TinyCWalker, by decide +kernel⟩, mv_instanceMethod_TinyCWalker_init_ILTinyCTapeV, rfl⟩
theorem ny_X12_cellsOf : zYs yX12_cellsOf cX12_cellsOf 1 (some .int) 1 := ⟨⟨mv_code_TinyCModel_cellsOf_II, mv_initialized_TinyCModel, by decide +kernel⟩, mv_static_TinyCModel_cellsOf_II⟩
