/-! NEW THINGS: sizes -/
def clN (x : Int32) : Nat := if x < 0 then 0 else if 4096 ≤ x then 4096 else x.toNatClampNeg
theorem clN_le (x : Int32) : clN x ≤ 4096 := by
  unfold clN
  by_cases h0 : x < 0
  · rw [if_pos h0]; omega
  · rw [if_neg h0]
    by_cases h1 : (4096 : Int32) ≤ x
    · rw [if_pos h1]; omega
    · rw [if_neg h1]
      obtain ⟨j, hj, rfl, -, e, -⟩ := pk_mu (L := 4096) h0 h1 (by omega)
      rw [e]; omega
theorem clN_v (x : Int32) : nI (clN x) = if x < 0 then 0 else if 4096 ≤ x then 4096 else x := by
  unfold clN
  by_cases h0 : x < 0
  · rw [if_pos h0, if_pos h0]; rfl
  · rw [if_neg h0, if_neg h0]
    by_cases h1 : (4096 : Int32) ≤ x
    · rw [if_pos h1, if_pos h1]; rfl
    · rw [if_neg h1, if_neg h1]
      obtain ⟨j, hj, rfl, -, e, -⟩ := pk_mu (L := 4096) h0 h1 (by omega)
      rw [e]
theorem clip_v (a : Int32) : (if (0 : Int32) < (if (4096 : Int32) < a then 4096 else a) then (if (4096 : Int32) < a then 4096 else a) else 0) = nI (clN a) := by
  rw [clN_v]
  have k0 : (0 : Int32).toInt = 0 := by decide
  have k4 : (4096 : Int32).toInt = 4096 := by decide
  by_cases h0 : a < 0
  · have h0' := Int32.lt_iff_toInt_lt.mp h0
    have h2 : ¬ (4096 : Int32) < a := fun q => by have := Int32.lt_iff_toInt_lt.mp q; omega
    have h3 : ¬ (0 : Int32) < a := fun q => by have := Int32.lt_iff_toInt_lt.mp q; omega
    rw [if_neg h2, if_neg h3, if_pos h0]
  · have h0' : ¬ a.toInt < (0 : Int32).toInt := fun q => h0 (Int32.lt_iff_toInt_lt.mpr q)
    rw [if_neg h0]
    by_cases h1 : (4096 : Int32) ≤ a
    · rw [if_pos h1]
      have h1' := Int32.le_iff_toInt_le.mp h1
      by_cases h2 : (4096 : Int32) < a
      · rw [if_pos h2, if_pos (by decide)]
      · have h2' : ¬ (4096 : Int32).toInt < a.toInt := fun q => h2 (Int32.lt_iff_toInt_lt.mpr q)
        have e : a = 4096 := Int32.toInt_inj.mp (by omega)
        rw [if_neg h2, if_pos (Int32.lt_iff_toInt_lt.mpr (by omega)), e]
    · have h1' : ¬ (4096 : Int32).toInt ≤ a.toInt := fun q => h1 (Int32.le_iff_toInt_le.mpr q)
      have h2 : ¬ (4096 : Int32) < a := fun q => by have := Int32.lt_iff_toInt_lt.mp q; omega
      rw [if_neg h1, if_neg h2]
      by_cases h3 : (0 : Int32) < a
      · rw [if_pos h3]
      · have h3' : ¬ (0 : Int32).toInt < a.toInt := fun q => h3 (Int32.lt_iff_toInt_lt.mpr q)
        rw [if_neg h3]
        exact (Int32.toInt_inj.mp (by omega)).symm
theorem nB_T {av : List Value} : FrameBlind (va_Pc av (fun _ => True)) := fun a U g mk q => ⟨q.1, trivial⟩
section
variable {l : Launch} {y : MethodName} {bytes : ByteArray} {maxL d : Nat}
/-- what holds while a small static method runs -/
def nS (p : Program) (s : State) (m : MethodId) (args : Array Value) (meth : Method) (c : Code) (cc : ByteArray) (nL : Nat) (own : String) : Prop := p.tables.exec = Jvm.exec ∧ c.code = cc ∧ c.maxLocals = nL ∧ s.vm.findClass own = some m.cls ∧ (∀ w ∈ gt, w.before args s = true) ∧ meth.sig.returnType = some .int ∧ meth.locks = false
theorem nMi_of {av : List Value} {B : State → Prop} {r : Int32} (hy : plainName y.cls = true) (hlen : (lg_sl av).length ≤ maxL)
    (body : ∀ (p : Program) (e : Env) (s : State) (m : MethodId) (args : Array Value) (below : List Frame) (meth : Method) (c : Code) (ls : Array Slot), nS p s m args meth c bytes maxL y.cls → B s → lv_has ls maxL (lv_args 0 av) →
      W p l e (zRm d) s m args below meth c s.heap [] 0 0 (MQ below (va_Qi (fun r' (_ : Unit) => r' = r) (fun _ _ => True) (fun _ => False)) args s 0 0 (fun _ => False)) (F0 m 0 ls [])) : nMi l y bytes maxL d av B r := by
  refine Met.ofW (cc := bytes) (maxL := maxL) (ret := some .int) hy rfl ?_
  intro p e s m args below meth c s₁ B0 hml hv
  obtain ⟨rfl, hB⟩ := hv
  have hts := atoms_spec (ws := .code y bytes maxL (some .int) :: gt) B0.pre
  have hown : s.vm.findClass y.cls = some m.cls := findClass_of_methodNamed B0.named
  have hl := lv_entry av (n := maxL) hlen
  rw [lg_entry_eq]
  exact body p e s m _ below meth c _ ⟨B0.exec, B0.bytes, hml, hown, fun w h => hts w (List.mem_cons_of_mem _ h), B0.returns, B0.notSynchronized⟩ hB hl
theorem ns_ret {p : Program} {e : Env} {s : State} {m : MethodId} {args : Array Value} {below : List Frame} {meth : Method} {c : Code} {cc : ByteArray} {nL : Nat} {own : String} {R : Room} {pc : Nat} {ls : Array Slot} {r v : Int32} (X : nS p s m args meth c cc nL own) (hr : v = r) (hdg : decode cc pc = .ok (.ireturn, 1)) : W p l e R s m args below meth c s.heap [] 0 0 (MQ below (va_Qi (fun r' (_ : Unit) => r' = r) (fun _ _ => True) (fun _ => False)) args s 0 0 (fun _ => False)) (F0 m pc ls [.int v]) := by
  subst hr
  have hlk := X.2.2.2.2.2.2
  exact W.iret (v := v) X.1 X.2.1 X.2.2.2.2.2.1 (fun t ht hW => ⟨⟨v, (), rfl, rfl, trivial⟩, va_S.rf.F ht⟩) (fun q h => by cases h) hdg
end
theorem vX11_clip (l : Launch) (a : Int32) : nMi l yX11_clip cX11_clip 1 1 [.int a] (fun _ => True) (nI (clN a)) := by
  refine nMi_of (by decide) (Nat.le_of_ble_eq_true rfl) (fun p e s m args below meth c ls X hB hl => ?_)
  have X : nS p s m args meth c cX11_clip 1 RX11 := X
  have hx := X.1
  have hb := X.2.1
  have hl : lv_has ls 1 [(0, .int a)] := hl
  refine lv_iconst (v := (0 : Int32)) hx hb dX11_clip_0 (by decide) ?_
  refine lv_iload_n hx hb dX11_clip_1 rfl (lv_at hl 0 rfl) ?_
  refine lv_sipush (v := (4096 : Int32)) hx hb dX11_clip_2 (by decide) ?_
  refine va_mmin (rest := [.int (0 : Int32)]) hx hb (X.2.2.1.trans hl.1.symm) X.2.2.2.1 (X.2.2.2.2.1 _ mw_methodLink_TinyC_79_javalangMath_min_III) (X.2.2.2.2.1 _ mw_static_javalangMath_min_III) (X.2.2.2.2.1 _ mw_initialized_javalangMath) (X.2.2.2.2.1 _ mw_code_javalangMath_min_III) (zR_1a (by omega)) (zR_1b (by omega) (Nat.le_of_ble_eq_true rfl)) (Nat.zero_le _) (Nat.zero_le _) dX11_clip_5 ?_
  refine va_mmax (rest := []) hx hb (X.2.2.1.trans hl.1.symm) X.2.2.2.1 (X.2.2.2.2.1 _ mw_methodLink_TinyC_85_javalangMath_max_III) (X.2.2.2.2.1 _ mw_static_javalangMath_max_III) (X.2.2.2.2.1 _ mw_initialized_javalangMath) (X.2.2.2.2.1 _ mw_code_javalangMath_max_III) (zR_1a (by omega)) (zR_1b (by omega) (Nat.le_of_ble_eq_true rfl)) (Nat.zero_le _) (Nat.zero_le _) dX11_clip_8 ?_
  exact ns_ret X (clip_v a) dX11_clip_11
theorem vX12_cellsOf (l : Launch) (a : Int32) : nMi l yX12_cellsOf cX12_cellsOf 1 1 [.int a] (fun _ => True) (nI (clN a)) := by
  refine nMi_of (by decide) (Nat.le_of_ble_eq_true rfl) (fun p e s m args below meth c ls X hB hl => ?_)
  have X : nS p s m args meth c cX12_cellsOf 1 RX12 := X
  have hx := X.1
  have hb := X.2.1
  have hl : lv_has ls 1 [(0, .int a)] := hl
  have k0 : (0 : Int32).toInt = 0 := by decide
  have k4 : (4096 : Int32).toInt = 4096 := by decide
  refine lv_iload_n hx hb dX12_cellsOf_0 rfl (lv_at hl 0 rfl) ?_
  refine lv_if_ge hx hb dX12_cellsOf_1 rfl (fun h => ?_) (fun h => ?_)
  · have h0 : ¬ a < 0 := fun q => by have := Int32.lt_iff_toInt_lt.mp q; have := Int32.le_iff_toInt_le.mp h; omega
    refine lv_iload_n hx hb dX12_cellsOf_8 rfl (lv_at hl 0 rfl) ?_
    refine lv_sipush (v := (4096 : Int32)) hx hb dX12_cellsOf_9 (by decide) ?_
    refine lv_icmp_le hx hb dX12_cellsOf_12 rfl (fun h => ?_) (fun h => ?_)
    · refine lv_iload_n hx hb dX12_cellsOf_21 rfl (lv_at hl 0 rfl) ?_
      refine ns_ret X ?_ dX12_cellsOf_22
      rw [clN_v, if_neg h0]
      by_cases h1 : (4096 : Int32) ≤ a
      · rw [if_pos h1]
        have := Int32.le_iff_toInt_le.mp h
        have := Int32.le_iff_toInt_le.mp h1
        exact Int32.toInt_inj.mp (by omega)
      · rw [if_neg h1]
    · refine lv_sipush (v := (4096 : Int32)) hx hb dX12_cellsOf_15 (by decide) ?_
      refine lv_goto hx hb dX12_cellsOf_18 rfl ?_
      refine ns_ret X ?_ dX12_cellsOf_22
      have h' : ¬ a.toInt ≤ (4096 : Int32).toInt := fun q => h (Int32.le_iff_toInt_le.mpr q)
      rw [clN_v, if_neg h0, if_pos (Int32.le_iff_toInt_le.mpr (by omega))]
  · have h' : ¬ (0 : Int32).toInt ≤ a.toInt := fun q => h (Int32.le_iff_toInt_le.mpr q)
    refine lv_iconst (v := (0 : Int32)) hx hb dX12_cellsOf_4 (by decide) ?_
    refine lv_goto hx hb dX12_cellsOf_5 rfl ?_
    refine ns_ret X ?_ dX12_cellsOf_22
    rw [clN_v, if_pos (Int32.lt_iff_toInt_lt.mpr (by omega))]
/-- the law's cell -/
def ceV (L : Nat) (xs : Nat → Int32) (k : Nat) : Int32 := if k < L then xs k else 0
theorem vL_cell (l : Launch) (b L k : Nat) (xs : Nat → Int32) (hL : L ≤ 1029) (hk : k < 100) : nMi l yL_cell cL_cell 2 1 [.ref b, .int (nI k)] (fun U => va_X b L xs U U.heap ∧ b < U.heap.size) (ceV L xs k) := by
  refine nMi_of (by decide) (Nat.le_of_ble_eq_true rfl) (fun p e s m args below meth c ls X hB hl => ?_)
  have X : nS p s m args meth c cL_cell 2 RL := X
  have hx := X.1
  have hb := X.2.1
  have hl : lv_has ls 2 [(0, .ref b), (1, .int (nI k))] := hl
  refine lv_iload_n hx hb dL_cell_0 rfl (lv_at hl 1 rfl) ?_
  refine lv_aload_n hx hb dL_cell_1 rfl (lv_at hl 0 rfl) ?_
  refine va_slen (A := fun _ => False) hx hb hB.1 hB.2 (fun h => h) va_S.rf dL_cell_2 ?_
  refine lv_icmp_ge hx hb dL_cell_3 rfl (fun h => ?_) (fun h => ?_)
  · refine lv_iconst (v := (0 : Int32)) hx hb dL_cell_12 (by decide) ?_
    refine ns_ret X ?_ dL_cell_13
    have h2 : nI L ≤ nI k := h
    rw [nI_le' (by omega) (by omega)] at h2
    unfold ceV
    rw [if_neg (by omega)]
  · have h2 : ¬ nI L ≤ nI k := h
    rw [nI_le' (by omega) (by omega)] at h2
    refine lv_aload_n hx hb dL_cell_6 rfl (lv_at hl 0 rfl) ?_
    refine lv_iload_n hx hb dL_cell_7 rfl (lv_at hl 1 rfl) ?_
    refine va_sld (A := fun _ => False) hx hb hB.1 hB.2 (fun h => h) va_S.rf (show vp_in (nI k) L from ix_ok (by omega) (by omega)) dL_cell_8 ?_
    refine lv_goto hx hb dL_cell_9 rfl ?_
    refine ns_ret X ?_ dL_cell_13
    unfold ceV
    rw [if_pos (by omega), nI_clamp (by omega)]
