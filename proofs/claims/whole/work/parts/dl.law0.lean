/-! THE LAW: its words -/
theorem mv_methodLink_TinyCLaw_21_TinyC_feed_II : Cond.methodLink RL 21 yX11_feed ∈ gt := gt_in (List.mem_of_getElem? (i := 660) (by decide +kernel)) (by decide)
theorem mv_methodLink_TinyCLaw_25_TinyCModel_feed_II : Cond.methodLink RL 25 yX12_feed ∈ gt := gt_in (List.mem_of_getElem? (i := 1607) (by decide +kernel)) (by decide)
theorem mv_methodLink_TinyCLaw_26_TinyC_compile_I : Cond.methodLink RL 26 yX11_compile ∈ gt := gt_in (List.mem_of_getElem? (i := 668) (by decide +kernel)) (by decide)
theorem mv_methodLink_TinyCLaw_30_TinyCModel_compile_I : Cond.methodLink RL 30 yX12_compile ∈ gt := gt_in (List.mem_of_getElem? (i := 1611) (by decide +kernel)) (by decide)
theorem mv_methodLink_TinyCLaw_31_TinyC_input_II : Cond.methodLink RL 31 yX11_input ∈ gt := gt_in (List.mem_of_getElem? (i := 1033) (by decide +kernel)) (by decide)
theorem mv_methodLink_TinyCLaw_34_TinyCModel_input_II : Cond.methodLink RL 34 yX12_input ∈ gt := gt_in (List.mem_of_getElem? (i := 1889) (by decide +kernel)) (by decide)
theorem mv_methodLink_TinyCLaw_35_TinyC_step_I : Cond.methodLink RL 35 yX11_step ∈ gt := gt_in (List.mem_of_getElem? (i := 1041) (by decide +kernel)) (by decide)
theorem mv_methodLink_TinyCLaw_38_TinyCModel_step_I : Cond.methodLink RL 38 yX12_step ∈ gt := gt_in (List.mem_of_getElem? (i := 1894) (by decide +kernel)) (by decide)
theorem mv_methodLink_TinyCLaw_39_TinyC_run_II : Cond.methodLink RL 39 yX11_run ∈ gt := gt_in (List.mem_of_getElem? (i := 1145) (by decide +kernel)) (by decide)
theorem mv_methodLink_TinyCLaw_42_TinyCModel_run_II : Cond.methodLink RL 42 yX12_run ∈ gt := gt_in (List.mem_of_getElem? (i := 1940) (by decide +kernel)) (by decide)
theorem mv_methodLink_TinyCLaw_43_TinyC_interpret_II : Cond.methodLink RL 43 yX11_interpret ∈ gt := gt_in (List.mem_of_getElem? (i := 1149) (by decide +kernel)) (by decide)
theorem mv_methodLink_TinyCLaw_46_TinyCModel_interpret_II : Cond.methodLink RL 46 yX12_interpret ∈ gt := gt_in (List.mem_of_getElem? (i := 1945) (by decide +kernel)) (by decide)
theorem mv_methodLink_TinyCLaw_47_TinyC_reset_V : Cond.methodLink RL 47 yX11_reset ∈ gt := gt_in (List.mem_of_getElem? (i := 1304) (by decide +kernel)) (by decide)
theorem mv_methodLink_TinyCLaw_50_TinyCModel_reset_V : Cond.methodLink RL 50 yX12_reset ∈ gt := gt_in (List.mem_of_getElem? (i := 1893) (by decide +kernel)) (by decide)
theorem mv_methodLink_TinyCLaw_51_TinyC_outSize_I : Cond.methodLink RL 51 yX11_outSize ∈ gt := gt_in (List.mem_of_getElem? (i := 1308) (by decide +kernel)) (by decide)
theorem mv_methodLink_TinyCLaw_54_TinyCModel_outSize_I : Cond.methodLink RL 54 yX12_outSize ∈ gt := gt_in (List.mem_of_getElem? (i := 2001) (by decide +kernel)) (by decide)
theorem mv_methodLink_TinyCLaw_55_TinyC_out_II : Cond.methodLink RL 55 yX11_out ∈ gt := gt_in (List.mem_of_getElem? (i := 1312) (by decide +kernel)) (by decide)
theorem mv_methodLink_TinyCLaw_58_TinyCModel_out_II : Cond.methodLink RL 58 yX12_out ∈ gt := gt_in (List.mem_of_getElem? (i := 2005) (by decide +kernel)) (by decide)
theorem mv_methodLink_TinyCLaw_59_TinyC_codeSize_I : Cond.methodLink RL 59 yX11_codeSize ∈ gt := gt_in (List.mem_of_getElem? (i := 1320) (by decide +kernel)) (by decide)
theorem mv_methodLink_TinyCLaw_62_TinyCModel_codeSize_I : Cond.methodLink RL 62 yX12_codeSize ∈ gt := gt_in (List.mem_of_getElem? (i := 2009) (by decide +kernel)) (by decide)
theorem mv_methodLink_TinyCLaw_63_TinyC_codeAt_II : Cond.methodLink RL 63 yX11_codeAt ∈ gt := gt_in (List.mem_of_getElem? (i := 1324) (by decide +kernel)) (by decide)
theorem mv_methodLink_TinyCLaw_66_TinyCModel_codeAt_II : Cond.methodLink RL 66 yX12_codeAt ∈ gt := gt_in (List.mem_of_getElem? (i := 2013) (by decide +kernel)) (by decide)
theorem mv_instantiable_TinyC_7 : Cond.instantiable RX11 7 ∈ gt := gt_in (List.mem_of_getElem? (i := 239) (by decide +kernel)) (by decide)
theorem mv_instantiable_TinyCModel_88 : Cond.instantiable RX12 88 ∈ gt := gt_in (List.mem_of_getElem? (i := 1333) (by decide +kernel)) (by decide)
theorem mv_laysStatic_TinyC_KEYWORDS_J : Cond.laysStatic "TinyC" "KEYWORDS" "[J" ∈ lw_tbl := List.mem_of_getElem? (i := 722) (by decide +kernel)
theorem mv_laysStatic_TinyC_RANKS_I : Cond.laysStatic "TinyC" "RANKS" "[I" ∈ lw_tbl := List.mem_of_getElem? (i := 929) (by decide +kernel)
theorem mv_code_TinyC_init_IIIIIV : Cond.code yX11_init cX11_init 8 none ∈ gt := gt_in (List.mem_of_getElem? (i := 242) (by decide +kernel)) (by decide)
theorem mv_instanceMethod_TinyC_init_IIIIIV : Cond.instanceMethod yX11_init ∈ gt := gt_in (List.mem_of_getElem? (i := 241) (by decide +kernel)) (by decide)
theorem mv_code_TinyCModel_init_IIIIIV : Cond.code yX12_init cX12_init 6 none ∈ gt := gt_in (List.mem_of_getElem? (i := 1336) (by decide +kernel)) (by decide)
theorem mv_instanceMethod_TinyCModel_init_IIIIIV : Cond.instanceMethod yX12_init ∈ gt := gt_in (List.mem_of_getElem? (i := 1335) (by decide +kernel)) (by decide)
theorem mv_code_TinyCLaw_cell_III : Cond.code yL_cell cL_cell 2 (some .int) ∈ gt := gt_in (List.mem_of_getElem? (i := 1331) (by decide +kernel)) (by decide)
theorem mv_initialized_TinyCLaw : Cond.initialized RL ∈ gt := gt_in (List.mem_of_getElem? (i := 222) (by decide +kernel)) (by decide)
theorem mv_static_TinyCLaw_cell_III : Cond.static yL_cell ∈ gt := gt_in (List.mem_of_getElem? (i := 1330) (by decide +kernel)) (by decide)
theorem mv_methodLink_TinyCLaw_9_TinyCLaw_cell_III : Cond.methodLink RL 9 yL_cell ∈ gt := gt_in (List.mem_of_getElem? (i := 1329) (by decide +kernel)) (by decide)
theorem mv_classLink_TinyCLaw_TinyC_7 : Cond.classLink RL 7 RX11 ∈ gt := gt_in (List.mem_of_getElem? (i := 238) (by decide +kernel)) (by decide)
theorem mv_classLink_TinyCLaw_TinyCModel_18 : Cond.classLink RL 18 RX12 ∈ gt := gt_in (List.mem_of_getElem? (i := 1332) (by decide +kernel)) (by decide)
theorem mv_methodLink_TinyCLaw_15_TinyC_init_IIIIIV : Cond.methodLink RL 15 yX11_init ∈ gt := gt_in (List.mem_of_getElem? (i := 240) (by decide +kernel)) (by decide)
theorem mv_methodLink_TinyCLaw_20_TinyCModel_init_IIIIIV : Cond.methodLink RL 20 yX12_init ∈ gt := gt_in (List.mem_of_getElem? (i := 1334) (by decide +kernel)) (by decide)
theorem ny_X11_init : nY yX11_init cX11_init 8 5 := ⟨⟨mv_code_TinyC_init_IIIIIV, mv_initialized_TinyC, by decide +kernel⟩, mv_instanceMethod_TinyC_init_IIIIIV, rfl⟩
theorem ny_X12_init : nY yX12_init cX12_init 6 5 := ⟨⟨mv_code_TinyCModel_init_IIIIIV, mv_initialized_TinyCModel, by decide +kernel⟩, mv_instanceMethod_TinyCModel_init_IIIIIV, rfl⟩
theorem ny_L_cell : zYs yL_cell cL_cell 2 (some .int) 2 := ⟨⟨mv_code_TinyCLaw_cell_III, mv_initialized_TinyCLaw, by decide +kernel⟩, mv_static_TinyCLaw_cell_III⟩
/-! THE CLAIM OUT OF ONE WALK OF THE LAW'S BODY. Your part is whole_start (and what it stands on); all else here is the same for every law, but numbers. -/
def R_law : String := "TinyCLaw"
def lw_P (b : Addr) (xs : List Int32) (args : Array Value) (s : State) : Prop := args = #[.ref b] ∧ s.IntsAt b xs ∧ xs.length ≤ 1029 ∧ (Jvm.Cond.and given_1 narrow_1).before args s = true
def lw_Q (_ : Array Value) (s : State) (o : Outcome) (t : State) : Prop := o = .returned (some (.int 1)) ∧ Framed s o t [] 600000 7302250
def lw_Z (below : List Frame) (a : Array Value) (s : State) : State → Prop := fun t => ∃ o, t.status = .running ∧ Ended t below o ∧ lw_Q a s o t
/-- the law's own end, with 1 on the stack, nothing written that was there before, its room as the claim has it -/
theorem lw_ret {p : Program} {l : Launch} {e : Env} {s : State} {m : MethodId} {below : List Frame} {meth : Method} {c : Code} {b : Nat} (hx : p.tables.exec = Jvm.exec) (hb : c.code = code) (hr : meth.sig.returnType = ret) (hlocks : meth.locks = false) {pc : Nat} {H : Heap} {ls : Array Slot} (hdg : decode code pc = .ok (.ireturn, 1)) : W p l e room_1 s m #[Value.ref b] below meth c H [] 600000 7302250 (lw_Z below #[Value.ref b] s) (F0 m pc ls [.int 1]) := by
  intro T hT X
  obtain ⟨fs, hret, hrun, hended, hW, hframe⟩ := X.leave (v := some (.int 1)) (hlocks := hlocks) (fun h => by rw [hr] at h; cases h)
  have hmeth' : T.vm.method? m = some meth := X.method'
  refine ⟨T.setFrames fs, ?_, .returned (some (.int 1)), hrun, hended, rfl, ⟨_, rfl⟩, hW, hframe⟩
  jvm_step X.here [X.here.top, hx, hb, hdg, hmeth', hr, ret, narrow_b1]
  (try refine ⟨rfl, ?_⟩); (try refine ⟨rfl, ?_⟩)
  first | (intro acts; rw [hret _ acts rfl rfl rfl]) | rw [hret _ _ rfl rfl rfl]
  exact Steps.refl _
/-- what holds at the law's entry: the machine, the code, the tables' words (any of lw_tbl by 'hts w (by decide +kernel)'), the script of L ints xs at the cell b, what the Statement gives of the start (any of its parts by flat_of_before) -/
def lw_At (p : Program) (s : State) (m : MethodId) (meth : Method) (c : Code) (b L : Nat) (xs : Nat → Int32) : Prop :=
  p.tables.exec = Jvm.exec ∧ c.code = code ∧ meth.sig.returnType = ret ∧ c.maxLocals = 4 ∧ s.vm.findClass R_law = some m.cls ∧ (∀ w ∈ lw_tbl, w.before #[Value.ref b] s = true) ∧ va_X b L xs s s.heap ∧ b < s.heap.size ∧ meth.locks = false ∧ (Jvm.Cond.and given_1 narrow_1).before #[Value.ref b] s = true
