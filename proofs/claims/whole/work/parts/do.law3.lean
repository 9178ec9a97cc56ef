/-! THE LAW: its start (written by law.py) -/
section
variable {p : Program} {l : Launch} {e : Env} {R : Room} {s : State} {m : MethodId} {args : Array Value} {below : List Frame} {meth : Method} {c : Code} {H H0 : Heap} {locs : List Loc} {Q : State → Prop} {cells slots : Nat}
variable {cc : ByteArray} {nL : Nat} {own : String} {D : va_G} {cy : Nat → ClassId} {A : Nat → Prop} {pc : Nat} {ls : Array Slot} {rest : List Value}
variable {y : MethodName} {bytes : ByteArray} {maxL d mc ms n index a : Nat} {As : List Value} {w1 : va_W} {ex : va_E} {post : (Nat → Nat) → va_W} {Pre : State → Prop}
/-- a constructor that all may call, beside a world w1 -/
theorem nr_ctor (X : nX p s m args c D cy cc nL own) (J : nJ D A H0 (w1 ++ [(a, ex)]) H locs) (hY : nY y bytes maxL n) (hl : Cond.methodLink own index y ∈ gt) (hRm : d + 1 ≤ R.frames ∧ 8 + (maxL + 11) + 60 * d ≤ R.locals) (hsize : ls.size = nL) (hn : As.length = n) (hW : (rest.map fun v => v.category).sum ≤ 8) (hM : Met l y (.code y bytes maxL none :: gt) (nRm d mc ms) (va_Pc (.ref a :: As) Pre) (va_Qv (fun (_ : Nat → Nat) => True) (fun ad t => va_P D vwCl (post ad) t.heap ∧ va_D (va_A [(a, ex)] H.size) (post ad)) (va_A [(a, ex)] H.size)) mc ms (va_A [(a, ex)] H.size)) (hbl : FrameBlind (va_Pc (.ref a :: As) Pre)) (hpre : va_P D vwCl [(a, ex)] H → va_D (fun _ => True) [(a, ex)] → (∀ q, va_A [(a, ex)] H.size q → A q) → ∀ U : State, U.heap = H → s.WarmedH U.vm → Pre U) (hdg : decode cc pc = .ok (.invokespecial index, 3)) (hf : cells + mc ≤ R.cells ∧ slots + ms ≤ R.slots)
    (kk : ∀ (ad : Nat → Nat) (H1 : Heap) (locs1 : List Loc), nJ D A H0 (w1 ++ post ad) H1 locs1 → W p l e R s m args below meth c H1 locs1 (cells + mc) (slots + ms) Q (F0 m (pc + 3) ls rest)) : W p l e R s m args below meth c H locs cells slots Q (F0 m pc ls (As.reverse ++ .ref a :: rest)) := by
  obtain ⟨hx, hb, hml, hown, hts, hK, hnt⟩ := X
  have hlast : (w1 ++ [(a, ex)])[w1.length]? = some (a, ex) := by simp
  have hw1 : ∀ (k : Nat) (q : Nat × va_E), w1[k]? = some q → (w1 ++ [(a, ex)])[k]? = some q ∧ k < w1.length := fun k q h => by
    have hk := (List.getElem?_eq_some_iff.mp h).1
    exact ⟨by rw [List.getElem?_append_left hk]; exact h, hk⟩
  have hPx : va_P D vwCl [(a, ex)] H := fun k q h => by
    have hk : k = 0 := by have := (List.getElem?_eq_some_iff.mp h).1; simp at this; omega
    subst hk
    cases h
    exact J.1 _ _ hlast
  have hDx : va_D (fun _ => True) [(a, ex)] := ⟨fun i j x y hi hj _ => by
    have := (List.getElem?_eq_some_iff.mp hi).1
    have := (List.getElem?_eq_some_iff.mp hj).1
    simp at *
    omega, fun _ _ _ => trivial⟩
  have hAx : A a := J.2.1.2 _ _ hlast
  have hFc : ∀ q, va_A [(a, ex)] H.size q → A q := by
    rintro q (⟨k, e0, h⟩ | h)
    · have hk : k = 0 := by have := (List.getElem?_eq_some_iff.mp h).1; simp at this; omega
      subst hk
      cases h
      exact hAx
    · exact J.2.2.2 q (Nat.le_trans J.2.2.1.1 h)
  have hnA : ∀ (k : Nat) (q : Nat × va_E), w1[k]? = some q → ¬ va_A [(a, ex)] H.size q.1 := by
    rintro k q hq (⟨i, e0, h⟩ | h)
    · have hi : i = 0 := by have := (List.getElem?_eq_some_iff.mp h).1; simp at this; omega
      subst hi
      have he : a = q.1 := (Prod.mk.inj (Option.some.inj h)).1
      have := J.2.1.1 _ _ _ _ (hw1 k q hq).1 hlast he.symm
      have := (hw1 k q hq).2
      omega
    · have := (J.1 _ _ (hw1 k q hq).1).lt
      omega
  refine va_callv (va_runI (As := As) (rest := rest) ⟨hx, hb, hml, hown, hts⟩ hM ⟨callB_of n hts (gt_sub (fun w h => h) hY.1.1) rfl rfl rfl (hts _ hY.1.2.1) (hts _ hl) hY.1.2.2 hRm, hY.2.2, hts _ hY.2.1⟩ ⟨hbl, fun U hU hW => ⟨rfl, hpre hPx hDx hFc U hU hW⟩⟩ rfl hn hsize rfl (lv_room hW) hdg hf) J.2.2.1 (fun q _ h => hFc q h) hFc (fun ad t H1 locs1 ht hvm hw hB hz1 hk1 hS => ?_)
  obtain ⟨hP1, hD1⟩ := hB
  rw [ht] at hP1
  have hPw : va_P D vwCl w1 H1 := fun k q hq => (J.1 _ _ (hw1 k q hq).1).kept (hk1 _ ((J.1 _ _ (hw1 k q hq).1).lt) (hnA k q hq))
  have hDw : va_D A w1 := ⟨fun i j x y hi hj he => J.2.1.1 i j x y (hw1 i x hi).1 (hw1 j y hj).1 he, fun k q hq => J.2.1.2 k q (hw1 k q hq).1⟩
  exact kk ad H1 locs1 ⟨hPw.app hP1, hDw.app (hD1.weaken (fun _ _ _ h => hFc _ h)) (fun i j x y hi hj he => hnA i x hi (by rw [he]; exact hD1.2 j y hj)), hS, J.2.2.2⟩
end
theorem nPre_zblind {D : va_G} {cy : Nat → ClassId} {w0 : va_W} {sz : Nat} {ts : Nat → Nat} {A : Nat → Prop} {av : List Value} : FrameBlind (va_Pc av (fun U => nPre D cy w0 sz U ∧ zStat A ts U)) := by
  intro a U g mk q
  obtain ⟨q0, ⟨qs, qP, qK, qD, qN⟩, qZ⟩ := q
  exact ⟨q0, ⟨qs, qP, va_K.moved (u := U) (U := U.calling g mk a) (Vm.Alike.refl U.vm) qK, qD, nt_same (s := U) (U := U.calling g mk a) rfl qN⟩, zStat_go (s := U) (U := U.calling g mk a) qZ (Vm.Alike.refl U.vm) (fun _ _ _ => rfl)⟩
theorem arr_of {s : State} {args : Array Value} {ty : FieldType} (h0 : ∀ C, ty ≠ .object C) (h : (Cond.arrayClass ty).before args s = true) : ∃ cA : ClassId, ArrOfT s cA ty ∧ va_RA s cA ty := by
  obtain ⟨cA, kA, comp, h1, h2, h3⟩ := Cond.arrayClass_spec h
  refine ⟨cA, fun n z => ⟨fun k h => (by cases h), kA, h2, comp, h3⟩, ?_⟩
  cases ty with
  | object C => exact absurd rfl (h0 C)
  | _ => exact h1
theorem know_of {s : State} {args : Array Value} (hts : ∀ w ∈ gt, w.before args s = true) : ∃ D : va_G, ∀ (k : Nat) (q : vw_C), vwCl[k]? = some q → u_Kn s q.1 q.2.1 q.2.2 (D.1 k) (D.2 k) := by
  obtain ⟨c0, i0, h0⟩ := u_known (C := RX0) (T := TX0) (N := 2) (n := 2) hts in_X0 (hts _ mv_instantiable_TinyCCode_2)
  obtain ⟨c1, i1, h1⟩ := u_known (C := RX1) (T := TX1) (N := 6) (n := 6) hts in_X1 (hts _ mv_instantiable_TinyCDesk_6)
  obtain ⟨c2, i2, h2⟩ := u_known (C := RX2) (T := TX2) (N := 10) (n := 10) hts in_X2 (hts _ mv_instantiable_TinyCExpressions_10)
  obtain ⟨c3, i3, h3⟩ := u_known (C := RX3) (T := TX3) (N := 8) (n := 8) hts in_X3 (hts _ mv_instantiable_TinyCMachine_8)
  obtain ⟨c4, i4, h4⟩ := u_known (C := RX4) (T := TX4) (N := 6) (n := 6) hts in_X4 (hts _ mv_instantiable_TinyCNames_6)
  obtain ⟨c5, i5, h5⟩ := u_known (C := RX5) (T := TX5) (N := 5) (n := 5) hts in_X5 (hts _ mv_instantiable_TinyCProgram_5)
  obtain ⟨c6, i6, h6⟩ := u_known (C := RX6) (T := TX6) (N := 10) (n := 10) hts in_X6 (hts _ mv_instantiable_TinyCReader_10)
  obtain ⟨c7, i7, h7⟩ := u_known (C := RX7) (T := TX7) (N := 8) (n := 8) hts in_X7 (hts _ mv_instantiable_TinyCScan_8)
  obtain ⟨c8, i8, h8⟩ := u_known (C := RX8) (T := TX8) (N := 5) (n := 5) hts in_X8 (hts _ mv_instantiable_TinyCTape_5)
  obtain ⟨c9, i9, h9⟩ := u_known (C := RX9) (T := TX9) (N := 7) (n := 7) hts in_X9 (hts _ mv_instantiable_TinyCTree_7)
  obtain ⟨c10, i10, h10⟩ := u_known (C := RX10) (T := TX10) (N := 16) (n := 16) hts in_X10 (hts _ mv_instantiable_TinyCWalker_16)
  obtain ⟨c11, i11, h11⟩ := u_known (C := RX11) (T := TX11) (N := 7) (n := 7) hts in_X11 (hts _ mv_instantiable_TinyC_7)
  obtain ⟨c12, i12, h12⟩ := u_known (C := RX12) (T := TX12) (N := 88) (n := 88) hts in_X12 (hts _ mv_instantiable_TinyCModel_88)
  refine ⟨(fun k => [c0, c1, c2, c3, c4, c5, c6, c7, c8, c9, c10, c11, c12].getD k c0, fun k => [i0, i1, i2, i3, i4, i5, i6, i7, i8, i9, i10, i11, i12].getD k i0), ?_⟩
  intro k q hq
  match k, hq with
  | 0, hq => cases hq; exact h0
  | 1, hq => cases hq; exact h1
  | 2, hq => cases hq; exact h2
  | 3, hq => cases hq; exact h3
  | 4, hq => cases hq; exact h4
  | 5, hq => cases hq; exact h5
  | 6, hq => cases hq; exact h6
  | 7, hq => cases hq; exact h7
  | 8, hq => cases hq; exact h8
  | 9, hq => cases hq; exact h9
  | 10, hq => cases hq; exact h10
  | 11, hq => cases hq; exact h11
  | 12, hq => cases hq; exact h12
  | k + 13, hq => simp [vwCl] at hq
set_option maxHeartbeats 4000000 in
set_option maxRecDepth 100000 in
theorem stat_of {s : State} {args : Array Value} (hts0 : ∀ w ∈ lw_tbl, w.before args s = true) (hts : ∀ w ∈ gt, w.before args s = true) (hg : (Jvm.Cond.and given_1 narrow_1).before args s = true) : ∃ ts : Nat → Nat, zStat (fun q => s.heap.size ≤ q) ts s := by
  have hs := flat_of_before _ hg
  have hA : ∀ a : Nat, a < s.heap.size → ¬ (fun q : Nat => s.heap.size ≤ q) a := fun a h => Nat.not_le.mpr h
  obtain ⟨t0, e0, T0⟩ := va_Tof (tm := .static "TinyC" "KEYWORDS" "[J") (ty := .long) (N := 7) (f := fun j => .long (zK_KEYWORDS j)) (by decide) (hs _ (by decide +kernel)) (va_eqt (hs _ (by decide +kernel))) (fun j hj => by
    rcases (show j = 0 ∨ j = 1 ∨ j = 2 ∨ j = 3 ∨ j = 4 ∨ j = 5 ∨ j = 6 by omega) with rfl | rfl | rfl | rfl | rfl | rfl | rfl <;> exact va_eqtl (hs _ (by decide +kernel))) hA
  obtain ⟨t1, e1, T1⟩ := va_Tof (tm := .static "TinyC" "RANKS" "[I") (ty := .int) (N := 29) (f := fun j => .int (zK_RANKS j)) (by decide) (hs _ (by decide +kernel)) (va_eqt (hs _ (by decide +kernel))) (fun j hj => by
    rcases (show j = 0 ∨ j = 1 ∨ j = 2 ∨ j = 3 ∨ j = 4 ∨ j = 5 ∨ j = 6 ∨ j = 7 ∨ j = 8 ∨ j = 9 ∨ j = 10 ∨ j = 11 ∨ j = 12 ∨ j = 13 ∨ j = 14 ∨ j = 15 ∨ j = 16 ∨ j = 17 ∨ j = 18 ∨ j = 19 ∨ j = 20 ∨ j = 21 ∨ j = 22 ∨ j = 23 ∨ j = 24 ∨ j = 25 ∨ j = 26 ∨ j = 27 ∨ j = 28 by omega) with rfl | rfl | rfl | rfl | rfl | rfl | rfl | rfl | rfl | rfl | rfl | rfl | rfl | rfl | rfl | rfl | rfl | rfl | rfl | rfl | rfl | rfl | rfl | rfl | rfl | rfl | rfl | rfl | rfl <;> exact va_eqt (hs _ (by decide +kernel))) hA
  exact ⟨fun i => if i = 0 then t0 else t1, ⟨va_Zof (hts0 _ mv_laysStatic_TinyC_KEYWORDS_J) (hts _ mv_initialized_TinyC) e0 hA, T0⟩, ⟨va_Zof (hts0 _ mv_laysStatic_TinyC_RANKS_I) (hts _ mv_initialized_TinyC) e1 hA, T1⟩, trivial⟩
theorem lnC_LN {q tx cc mc io : Nat} (hq : q = 9 ∨ q = 10) (ht : tx ≤ 4096) (hc : cc ≤ 4096) : LN (lnC tx cc mc io) q cc := by
  refine ⟨hq, ht, rfl, rfl, rfl, rfl, rfl, rfl, rfl, rfl, fun a h1 h2 => ?_, ?_, hc⟩
  · rcases (show a = 33 ∨ a = 34 ∨ a = 35 ∨ a = 36 ∨ a = 37 ∨ a = 38 ∨ a = 39 ∨ a = 40 ∨ a = 41 ∨ a = 42 ∨ a = 43 ∨ a = 44 by omega) with rfl | rfl | rfl | rfl | rfl | rfl | rfl | rfl | rfl | rfl | rfl | rfl <;> rfl
  · rcases hq with rfl | rfl <;> rfl
theorem Rel_0 {tx tc cc mc io : Nat} (h1 : tx ≤ 4096) (h2 : tc ≤ 4096) (h3 : cc ≤ 4096) (h4 : mc ≤ 4096) (h5 : io ≤ 4096) : Rel (lnC tx cc mc io) tx tc cc mc io 0 (s2C tc mc) (s0R tx tc cc mc io) := by
  refine ⟨⟨⟨lnC_LN (Or.inl rfl) h1 h3, lnC_LN (Or.inr rfl) h1 h3, lnC_LM h4 h5, rfl, h1, h2, h3⟩, rfl, rfl, (s2C_I (by omega) (by omega)).trans rfl, rfl, rfl, rfl, (s2C_I (by omega) (by omega)).trans rfl⟩, ⟨0, fun _ => 0, (s2C_I (by omega) (by omega)).trans rfl, rfl, by omega, by omega, fun j hj => absurd hj (Nat.not_lt_zero _)⟩, ⟨0, 0, (s2C_I (by omega) (by omega)).trans rfl, rfl, by omega, (s2C_I (by omega) (by omega)).trans rfl, rfl, by omega, fun j hj => absurd hj (Nat.not_lt_zero _), fun j hj => absurd hj (Nat.not_lt_zero _)⟩, 9, 10, Or.inl ⟨rfl, rfl⟩, (s2C_R (by omega) (by omega)).trans rfl, (s2C_R (by omega) (by omega)).trans rfl, Or.inl ⟨rfl, (s2C_I (by omega) (by omega)).trans rfl, rfl, (s2C_I (by omega) (by omega)).trans rfl⟩⟩
abbrev wR0 (h0 : Nat) : va_W := [(h0, .inr (12, [.null, .int 0, .int 0, .int 0, .null, .int 0, .int 0, .null, .int 0, .null, .int 0, .int 0, .int 0, .null, .int 0, .null, .int 0, .int 0, .int 0, .int 0, .long 0, .int 0, .int 0, .null, .null, .null, .null, .null, .null, .int 0, .int 0, .null, .null, .int 0, .int 0, .int 0, .int 0, .int 0, .int 0, .null, .null, .null, .null, .null, .null, .null, .int 0, .null, .null, .null, .null, .null, .null, .null, .int 0, .null, .null, .null, .null, .null, .null, .int 0, .null, .int 0, .null, .null, .null, .null, .null, .null, .int 0, .int 0, .int 0, .int 0, .int 0, .int 0, .int 0, .null, .null, .int 0, .null, .null, .int 0, .null, .int 0, .null, .null, .int 0]))]
def eR0 : va_E := .inr (12, [.null, .int 0, .int 0, .int 0, .null, .int 0, .int 0, .null, .int 0, .null, .int 0, .int 0, .int 0, .null, .int 0, .null, .int 0, .int 0, .int 0, .int 0, .long 0, .int 0, .int 0, .null, .null, .null, .null, .null, .null, .int 0, .int 0, .null, .null, .int 0, .int 0, .int 0, .int 0, .int 0, .int 0, .null, .null, .null, .null, .null, .null, .null, .int 0, .null, .null, .null, .null, .null, .null, .null, .int 0, .null, .null, .null, .null, .null, .null, .int 0, .null, .int 0, .null, .null, .null, .null, .null, .null, .int 0, .int 0, .int 0, .int 0, .int 0, .int 0, .int 0, .null, .null, .int 0, .null, .null, .int 0, .null, .int 0, .null, .null, .int 0])
def eC0 : va_E := .inr (11, [.null, .null, .null, .null, .null, .null, .null])
set_option maxHeartbeats 4000000 in
set_option maxRecDepth 100000 in
/-- both constructors, then the loop -/
theorem whole_start {p : Program} {e : Env} {s : State} {m : MethodId} {below : List Frame} {meth : Method} {c : Code} (l : Launch) {b L : Nat} {xs : Nat → Int32} (hL : L ≤ 1029) (C0 : lw_At p s m meth c b L xs) : W p l e room_1 s m #[Value.ref b] below meth c s.heap [] 0 0 (lw_Z below #[Value.ref b] s) (entryFrame m ([Value.ref b] : List Value).toArray 4) := by
  obtain ⟨hx, hb, hr, hml, hown, hts0, hX, hbl, hlocks, hgv⟩ := id C0
  have hts : ∀ w ∈ gt, w.before #[Value.ref b] s = true := fun w h => hts0 w (List.mem_filter.mp h).1
  have hnt : ∀ w ∈ nt, va_Nw w s := fun w h => va_Nw.of (by
    have := (List.mem_filter.mp h).2
    cases w <;> first | rfl | cases this) (hts0 w (List.mem_filter.mp h).1)
  obtain ⟨D, hKc⟩ := know_of hts
  obtain ⟨c0, a0⟩ := arr_of (fun C h => by cases h) (hts _ mv_arrayClass_int)
  obtain ⟨c1, a1⟩ := arr_of (fun C h => by cases h) (hts _ mv_arrayClass_long)
  obtain ⟨c2, a2⟩ := arr_of (fun C h => by cases h) (hts _ mv_arrayClass_boolean)
  obtain ⟨cy, hcy⟩ : ∃ cy : Nat → ClassId, va_K D vwCl (zTy cy) s := by
    refine ⟨fun k => if k = 0 then c0 else if k = 1 then c1 else c2, hKc, fun k q hq => ?_⟩
    match k, hq with
    | 0, hq => cases hq; exact a0
    | 1, hq => cases hq; exact a1
    | 2, hq => cases hq; exact a2
    | k + 3, hq => simp [zTy] at hq
  obtain ⟨ts, hst⟩ := stat_of hts0 hts hgv
  have X : nX p s m #[Value.ref b] c D cy cL_law 4 RL := ⟨hx, hb, hml, hown, hts, hcy, hnt⟩
  have hbA : ¬ (fun q : Nat => s.heap.size ≤ q) b := Nat.not_le.mpr hbl
  have hl := lv_entry ([.ref b]) (n := 4) (Nat.le_of_ble_eq_true rfl)
  rw [lg_entry_eq]
  generalize (lg_sl ([.ref b]) ++ List.replicate (4 - (lg_sl ([.ref b])).length) Slot.unset).toArray = ls at hl ⊢
  have hl : lv_has ls 4 [(0, .ref b)] := hl
  have J : nJ D (fun q => s.heap.size ≤ q) s.heap [] s.heap [] := ⟨fun k q h => by simp at h, ⟨fun i j p q h => by simp at h, fun k q h => by simp at h⟩, va_S.rf, fun q h => h⟩
  have cell : ∀ (k : Nat) (pc : Nat) (H : Heap) (locs : List Loc) (ls : Array Slot) (ws : va_W) (rest : List Value) (cells slots : Nat), k < 100 → cells ≤ 600000 → slots ≤ 7302250 → ls.size = 4 → (rest.map fun v => v.category).sum ≤ 8 → decode cL_law pc = .ok (.invokestatic 9, 3) → nJ D (fun q => s.heap.size ≤ q) s.heap ws H locs → (∀ (H1 : Heap) (locs1 : List Loc), nJ D (fun q => s.heap.size ≤ q) s.heap ws H1 locs1 → W p l e room_1 s m #[Value.ref b] below meth c H1 locs1 cells slots (lw_Z below #[Value.ref b] s) (F0 m (pc + 3) ls (.int (ceV L xs k) :: rest))) → W p l e room_1 s m #[Value.ref b] below meth c H locs cells slots (lw_Z below #[Value.ref b] s) (F0 m pc ls (.int (nI k) :: .ref b :: rest)) := by
    intro k pc H locs ls ws rest cells slots hk hcl hsl hls hrs hd J kk
    refine nr_calls X J (B := fun U => va_X b L xs U U.heap ∧ b < U.heap.size) (fun a U g mk q => ⟨q.1, q.2.1.moved (u := U) (U := U.calling g mk a) (Vm.Alike.refl U.vm), q.2.2⟩) (fun U hU hW => ⟨?_, ?_⟩) ny_L_cell mv_methodLink_TinyCLaw_9_TinyCLaw_cell_III ⟨Nat.le_of_ble_eq_true rfl, Nat.le_of_ble_eq_true rfl⟩ hls (As := [.ref b, .int (nI k)]) rfl hrs (vL_cell l b L k xs hL hk) hd hcl hsl kk
    · rw [hU]; exact (hX.kept (J.2.2.1.2.1 b hbl hbA)).moved hW.alike
    · rw [hU]; exact Nat.lt_of_lt_of_le hbl J.2.2.1.1
  refine nr_new X J (C := RX11) (T := TX11) (N := 7) (index := 7) (ci := 11) rfl in_X11 tyX11 tyX11_ok mv_classLink_TinyCLaw_TinyC_7 mv_instantiable_TinyC_7 mv_initialized_TinyC (fs := [.null, .null, .null, .null, .null, .null, .null]) nd_X11 (Nat.le_of_ble_eq_true rfl) (Nat.le_of_ble_eq_true rfl) dL_law_0 (fun q1 H J => ?_)
  refine W.widen (k := 1) (n := 7) (Nat.le_of_ble_eq_true rfl) (Nat.le_of_ble_eq_true rfl) ?_
  refine lv_dup hx hb dL_law_3 rfl ?_
  refine lv_aload_n hx hb dL_law_4 rfl (lv_at hl 0 rfl) ?_
  refine lv_iconst (v := (0 : Int32)) hx hb dL_law_5 (by decide) ?_
  refine cell 0 6 _ _ _ _ _ _ _ (by decide) (Nat.le_of_ble_eq_true rfl) (Nat.le_of_ble_eq_true rfl) hl.1 (Nat.le_of_ble_eq_true rfl) dL_law_6 J (fun H locs J => ?_)
  refine lv_aload_n hx hb dL_law_9 rfl (lv_at hl 0 rfl) ?_
  refine lv_iconst (v := (1 : Int32)) hx hb dL_law_10 (by decide) ?_
  refine cell 1 11 _ _ _ _ _ _ _ (by decide) (Nat.le_of_ble_eq_true rfl) (Nat.le_of_ble_eq_true rfl) hl.1 (Nat.le_of_ble_eq_true rfl) dL_law_11 J (fun H locs J => ?_)
  refine lv_aload_n hx hb dL_law_14 rfl (lv_at hl 0 rfl) ?_
  refine lv_iconst (v := (2 : Int32)) hx hb dL_law_15 (by decide) ?_
  refine cell 2 16 _ _ _ _ _ _ _ (by decide) (Nat.le_of_ble_eq_true rfl) (Nat.le_of_ble_eq_true rfl) hl.1 (Nat.le_of_ble_eq_true rfl) dL_law_16 J (fun H locs J => ?_)
  refine lv_aload_n hx hb dL_law_19 rfl (lv_at hl 0 rfl) ?_
  refine lv_iconst (v := (3 : Int32)) hx hb dL_law_20 (by decide) ?_
  refine cell 3 21 _ _ _ _ _ _ _ (by decide) (Nat.le_of_ble_eq_true rfl) (Nat.le_of_ble_eq_true rfl) hl.1 (Nat.le_of_ble_eq_true rfl) dL_law_21 J (fun H locs J => ?_)
  refine lv_aload_n hx hb dL_law_24 rfl (lv_at hl 0 rfl) ?_
  refine lv_iconst (v := (4 : Int32)) hx hb dL_law_25 (by decide) ?_
  refine cell 4 26 _ _ _ _ _ _ _ (by decide) (Nat.le_of_ble_eq_true rfl) (Nat.le_of_ble_eq_true rfl) hl.1 (Nat.le_of_ble_eq_true rfl) dL_law_26 J (fun H locs J => ?_)
  refine nr_ctor (As := [.int (ceV L xs 0), .int (ceV L xs 1), .int (ceV L xs 2), .int (ceV L xs 3), .int (ceV L xs 4)]) (rest := [.ref q1]) (w1 := []) (a := q1) (ex := eC0) (y := yX11_init) X J ny_X11_init mv_methodLink_TinyCLaw_15_TinyC_init_IIIIIV ⟨Nat.le_of_ble_eq_true rfl, Nat.le_of_ble_eq_true rfl⟩ hl.1 rfl (Nat.le_of_ble_eq_true rfl) (vX11_init l D cy ts q1 H.size _ _ _ _ _) nPre_zblind (fun hP hD hF U hU hW => ⟨⟨by rw [hU], by rw [hU]; exact hP, va_K.moved hW.alike hcy, hD, nt_warm hW hnt⟩, zStat_sub (zStat_go hst hW.alike (fun a h1 h2 => by rw [hU]; exact J.2.2.1.2.1 a h1 h2)) hF⟩) dL_law_29 ⟨Nat.le_of_ble_eq_true rfl, Nat.le_of_ble_eq_true rfl⟩ (fun ad1 H locs J1 => ?_)
  clear J
  refine W.widen (k := 50) (n := 150000) (Nat.le_of_ble_eq_true rfl) (Nat.le_of_ble_eq_true rfl) ?_
  obtain ⟨g1, hg1⟩ : ∃ g, g = (fun i => if i = 0 then q1 else ad1 i) := ⟨_, rfl⟩
  have e1 : q1 = g1 0 := by rw [hg1]; rfl
  rw [← hg1] at J1
  clear hg1
  subst e1
  have J := J1
  clear J1
  obtain ⟨w1, hw1⟩ : ∃ w, w = zW shC g1 cy (lnC (clN (ceV L xs 0)) (clN (ceV L xs 2)) (clN (ceV L xs 3)) (clN (ceV L xs 4))) (s2C (clN (ceV L xs 1)) (clN (ceV L xs 3))) := ⟨_, rfl⟩
  have J2 : nJ D (fun q => s.heap.size ≤ q) s.heap w1 H locs := by rw [hw1]; exact J
  clear J
  have J := J2
  clear J2
  refine lv_astore_n (lv' := [(1, .ref (g1 0)), (0, .ref b)]) hx hb dL_law_32 rfl hl (by decide) rfl (fun ls hl => ?_)
  refine nr_new X J (C := RX12) (T := TX12) (N := 88) (index := 18) (ci := 12) rfl in_X12 tyX12 tyX12_ok mv_classLink_TinyCLaw_TinyCModel_18 mv_instantiable_TinyCModel_88 mv_initialized_TinyCModel (fs := [.null, .int 0, .int 0, .int 0, .null, .int 0, .int 0, .null, .int 0, .null, .int 0, .int 0, .int 0, .null, .int 0, .null, .int 0, .int 0, .int 0, .int 0, .long 0, .int 0, .int 0, .null, .null, .null, .null, .null, .null, .int 0, .int 0, .null, .null, .int 0, .int 0, .int 0, .int 0, .int 0, .int 0, .null, .null, .null, .null, .null, .null, .null, .int 0, .null, .null, .null, .null, .null, .null, .null, .int 0, .null, .null, .null, .null, .null, .null, .int 0, .null, .int 0, .null, .null, .null, .null, .null, .null, .int 0, .int 0, .int 0, .int 0, .int 0, .int 0, .int 0, .null, .null, .int 0, .null, .null, .int 0, .null, .int 0, .null, .null, .int 0]) nd_X12 (Nat.le_of_ble_eq_true rfl) (Nat.le_of_ble_eq_true rfl) dL_law_33 (fun q2 H J => ?_)
  refine W.widen (k := 51) (n := 150088) (Nat.le_of_ble_eq_true rfl) (Nat.le_of_ble_eq_true rfl) ?_
  refine lv_dup hx hb dL_law_36 rfl ?_
  refine lv_aload_n hx hb dL_law_37 rfl (lv_at hl 1 rfl) ?_
  refine lv_iconst (v := (0 : Int32)) hx hb dL_law_38 (by decide) ?_
  refine cell 0 39 _ _ _ _ _ _ _ (by decide) (Nat.le_of_ble_eq_true rfl) (Nat.le_of_ble_eq_true rfl) hl.1 (Nat.le_of_ble_eq_true rfl) dL_law_39 J (fun H locs J => ?_)
  refine lv_aload_n hx hb dL_law_42 rfl (lv_at hl 1 rfl) ?_
  refine lv_iconst (v := (1 : Int32)) hx hb dL_law_43 (by decide) ?_
  refine cell 1 44 _ _ _ _ _ _ _ (by decide) (Nat.le_of_ble_eq_true rfl) (Nat.le_of_ble_eq_true rfl) hl.1 (Nat.le_of_ble_eq_true rfl) dL_law_44 J (fun H locs J => ?_)
  refine lv_aload_n hx hb dL_law_47 rfl (lv_at hl 1 rfl) ?_
  refine lv_iconst (v := (2 : Int32)) hx hb dL_law_48 (by decide) ?_
  refine cell 2 49 _ _ _ _ _ _ _ (by decide) (Nat.le_of_ble_eq_true rfl) (Nat.le_of_ble_eq_true rfl) hl.1 (Nat.le_of_ble_eq_true rfl) dL_law_49 J (fun H locs J => ?_)
  refine lv_aload_n hx hb dL_law_52 rfl (lv_at hl 1 rfl) ?_
  refine lv_iconst (v := (3 : Int32)) hx hb dL_law_53 (by decide) ?_
  refine cell 3 54 _ _ _ _ _ _ _ (by decide) (Nat.le_of_ble_eq_true rfl) (Nat.le_of_ble_eq_true rfl) hl.1 (Nat.le_of_ble_eq_true rfl) dL_law_54 J (fun H locs J => ?_)
  refine lv_aload_n hx hb dL_law_57 rfl (lv_at hl 1 rfl) ?_
  refine lv_iconst (v := (4 : Int32)) hx hb dL_law_58 (by decide) ?_
  refine cell 4 59 _ _ _ _ _ _ _ (by decide) (Nat.le_of_ble_eq_true rfl) (Nat.le_of_ble_eq_true rfl) hl.1 (Nat.le_of_ble_eq_true rfl) dL_law_59 J (fun H locs J => ?_)
  refine nr_ctor (As := [.int (ceV L xs 0), .int (ceV L xs 1), .int (ceV L xs 2), .int (ceV L xs 3), .int (ceV L xs 4)]) (rest := [.ref q2]) (w1 := w1) (a := q2) (ex := eR0) (y := yX12_init) X J ny_X12_init mv_methodLink_TinyCLaw_20_TinyCModel_init_IIIIIV ⟨Nat.le_of_ble_eq_true rfl, Nat.le_of_ble_eq_true rfl⟩ hl.1 rfl (Nat.le_of_ble_eq_true rfl) (vX12_init l D cy q2 _ _ _ _ _ H.size) nPre_blind (fun hP hD hF U hU hW => ⟨by rw [hU], by rw [hU]; exact hP, va_K.moved hW.alike hcy, hD, nt_warm hW hnt⟩) dL_law_62 ⟨Nat.le_of_ble_eq_true rfl, Nat.le_of_ble_eq_true rfl⟩ (fun ad2 H locs J1 => ?_)
  clear J
  refine W.widen (k := 100) (n := 400000) (Nat.le_of_ble_eq_true rfl) (Nat.le_of_ble_eq_true rfl) ?_
  obtain ⟨g2, hg2⟩ : ∃ g, g = (fun i => if i = 0 then q2 else ad2 i) := ⟨_, rfl⟩
  have e2 : q2 = g2 0 := by rw [hg2]; rfl
  rw [← hg2] at J1
  clear hg2
  subst e2
  subst hw1
  have J := J1
  clear J1
  refine lv_astore_n (lv' := [(2, .ref (g2 0)), (1, .ref (g1 0)), (0, .ref b)]) hx hb dL_law_65 rfl hl (by decide) rfl (fun ls hl => ?_)
  refine lv_iconst (v := (5 : Int32)) hx hb dL_law_66 (by decide) ?_
  refine lv_istore_n (lv' := [(3, .int (5 : Int32)), (2, .ref (g2 0)), (1, .ref (g1 0)), (0, .ref b)]) hx hb dL_law_67 rfl hl (by decide) rfl (fun ls hl => ?_)
  have hD1 : va_D (fun q => s.heap.size ≤ q) (zW shC g1 cy (lnC (clN (ceV L xs 0)) (clN (ceV L xs 2)) (clN (ceV L xs 3)) (clN (ceV L xs 4))) (s2C (clN (ceV L xs 1)) (clN (ceV L xs 3)))) := ⟨fun i j x y hi hj he => J.2.1.1 i j x y (by rw [List.getElem?_append_left (List.getElem?_eq_some_iff.mp hi).1]; exact hi) (by rw [List.getElem?_append_left (List.getElem?_eq_some_iff.mp hj).1]; exact hj) he, fun k q hq => J.2.1.2 k q (by rw [List.getElem?_append_left (List.getElem?_eq_some_iff.mp hq).1]; exact hq)⟩
  have hR1 : ∀ (k : Nat) (q : Nat × va_E), (zW shR g2 cy lnR (s0R (clN (ceV L xs 0)) (clN (ceV L xs 1)) (clN (ceV L xs 2)) (clN (ceV L xs 3)) (clN (ceV L xs 4))))[k]? = some q → (zW shC g1 cy (lnC (clN (ceV L xs 0)) (clN (ceV L xs 2)) (clN (ceV L xs 3)) (clN (ceV L xs 4))) (s2C (clN (ceV L xs 1)) (clN (ceV L xs 3))) ++ zW shR g2 cy lnR (s0R (clN (ceV L xs 0)) (clN (ceV L xs 1)) (clN (ceV L xs 2)) (clN (ceV L xs 3)) (clN (ceV L xs 4))))[47 + k]? = some q := fun k q hq => by
    have hlen : (zW shC g1 cy (lnC (clN (ceV L xs 0)) (clN (ceV L xs 2)) (clN (ceV L xs 3)) (clN (ceV L xs 4))) (s2C (clN (ceV L xs 1)) (clN (ceV L xs 3)))).length = 47 := by unfold zW; rw [List.length_map, List.length_range]; rfl
    rw [List.getElem?_append_right (by omega), hlen, show 47 + k - 47 = k by omega]
    exact hq
  have hD2 : va_D (fun q => s.heap.size ≤ q) (zW shR g2 cy lnR (s0R (clN (ceV L xs 0)) (clN (ceV L xs 1)) (clN (ceV L xs 2)) (clN (ceV L xs 3)) (clN (ceV L xs 4)))) := ⟨fun i j x y hi hj he => by
    have := J.2.1.1 _ _ x y (hR1 i x hi) (hR1 j y hj) he
    omega, fun k q hq => J.2.1.2 _ q (hR1 k q hq)⟩
  have hap : ∀ i j, i < 47 → j < 49 → g1 i ≠ g2 j := fun i j hi hj he => by
    have h1 := zW_at (S := shC) (ad := g1) (cy := cy) (ln := lnC (clN (ceV L xs 0)) (clN (ceV L xs 2)) (clN (ceV L xs 3)) (clN (ceV L xs 4))) (σ := s2C (clN (ceV L xs 1)) (clN (ceV L xs 3))) (q := i) hi
    have h2 := zW_at (S := shR) (ad := g2) (cy := cy) (ln := lnR) (σ := s0R (clN (ceV L xs 0)) (clN (ceV L xs 1)) (clN (ceV L xs 2)) (clN (ceV L xs 3)) (clN (ceV L xs 4))) (q := j) hj
    have := J.2.1.1 i (47 + j) _ _ (by rw [List.getElem?_append_left (List.getElem?_eq_some_iff.mp h1).1]; exact h1) (hR1 j _ h2) he
    omega
  obtain ⟨N, hN⟩ : ∃ N, 2 ^ 31 ≤ N := ⟨2 ^ 31, Nat.le_refl _⟩
  exact law_loop (N := N) hr hlocks ⟨X, hst, hX, hbl, zIn_D hD1, zIn_D hD2, hap, hL⟩ hN L 0 _ _ H locs ls (by omega) (by omega) (Rel_0 (clN_le _) (clN_le _) (clN_le _) (clN_le _) (clN_le _)) ⟨fun k q hq => J.1 k q (by rw [List.getElem?_append_left (List.getElem?_eq_some_iff.mp hq).1]; exact hq), fun k q hq => J.1 _ q (hR1 k q hq), J.2.2.1⟩ hl
