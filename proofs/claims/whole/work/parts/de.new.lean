/-! NEW THINGS: worlds as lists, while constructors run -/
def zi (cy : Nat → ClassId) (n : Nat) : va_E := .inl (cy 0, n, .inl (fun _ => (0 : Int32)))
def zl (cy : Nat → ClassId) (n : Nat) : va_E := .inl (cy 1, n, .inr (.inl (fun _ => (0 : Int64))))
def zz (cy : Nat → ClassId) (n : Nat) : va_E := .inl (cy 2, n, .inl (fun _ => (0 : Int32)))
/-- what holds of the machine while a method runs -/
def nX (p : Program) (s : State) (m : MethodId) (args : Array Value) (c : Code) (D : va_G) (cy : Nat → ClassId) (cc : ByteArray) (nL : Nat) (own : String) : Prop := p.tables.exec = Jvm.exec ∧ c.code = cc ∧ c.maxLocals = nL ∧ s.vm.findClass own = some m.cls ∧ (∀ w ∈ gt, w.before args s = true) ∧ va_K D vwCl (zTy cy) s ∧ (∀ w ∈ nt, va_Nw w s)
/-- a constructor -/
def nC (meth : Method) : Prop := meth.name = "<init>" ∧ meth.sig.returnType = none ∧ meth.locks = false
def nJ (D : va_G) (A : Nat → Prop) (H0 : Heap) (ws : va_W) (H : Heap) (locs : List Loc) : Prop := va_P D vwCl ws H ∧ va_D A ws ∧ va_S A H0 H locs ∧ (∀ q, H0.size ≤ q → A q)
def nRm (d mc ms : Nat) : Room := { frames := d, cells := mc, slots := ms, locals := 60 * d }
def nPre (D : va_G) (cy : Nat → ClassId) (w0 : va_W) (sz : Nat) (U : State) : Prop := U.heap.size = sz ∧ va_P D vwCl w0 U.heap ∧ va_K D vwCl (zTy cy) U ∧ va_D (fun _ => True) w0 ∧ (∀ w ∈ nt, va_Nw w U)
def nM (l : Launch) (y : MethodName) (cc : ByteArray) (nL d mc ms : Nat) (D : va_G) (cy : Nat → ClassId) (av : List Value) (w0 : va_W) (post : (Nat → Nat) → va_W) : Prop :=
  ∀ sz, Met l y (.code y cc nL none :: gt) (nRm d mc ms) (va_Pc av (nPre D cy w0 sz)) (va_Qv (fun (_ : Nat → Nat) => True) (fun ad t => va_P D vwCl (post ad) t.heap ∧ va_D (va_A w0 sz) (post ad)) (va_A w0 sz)) mc ms (va_A w0 sz)
theorem nPre_blind {D : va_G} {cy : Nat → ClassId} {w0 : va_W} {sz : Nat} {av : List Value} : FrameBlind (va_Pc av (nPre D cy w0 sz)) := by
  intro a U g mk q
  obtain ⟨q0, qs, qP, qK, qD, qN⟩ := q
  exact ⟨q0, qs, qP, va_K.moved (u := U) (U := U.calling g mk a) (Vm.Alike.refl U.vm) qK, qD, nt_same (s := U) (U := U.calling g mk a) rfl qN⟩
theorem P_map {D : va_G} {ws wc : va_W} {H : Heap} (hP : va_P D vwCl ws H) (isC : List Nat) (hC : isC.map (fun i => ws[i]?) = wc.map some) : va_P D vwCl wc H := by
  intro k q hk
  have h1 : (isC.map (fun i => ws[i]?))[k]? = some (some q) := by rw [hC, List.getElem?_map, hk]; rfl
  rw [List.getElem?_map] at h1
  cases hi : isC[k]? with
  | none => rw [hi] at h1; cases h1
  | some i => rw [hi] at h1; exact hP i q (Option.some.inj h1)
section
variable {p : Program} {l : Launch} {e : Env} {R : Room} {s : State} {m : MethodId} {args : Array Value} {below : List Frame} {meth : Method} {c : Code} {H H0 : Heap} {locs : List Loc} {Q : State → Prop} {cells slots : Nat}
variable {cc : ByteArray} {nL : Nat} {own : String} {D : va_G} {cy : Nat → ClassId} {A : Nat → Prop} {ws : va_W} {pc : Nat} {ls : Array Slot} {rest : List Value}
theorem nr_get (X : nX p s m args c D cy cc nL own) (J : nJ D A H0 ws H locs) {C : String} {T : u_T} {N index ci a : Nat} {fs : List Value} (q0 k : Nat) (he : ws[q0]? = some (a, .inr (ci, fs))) (hc : vwCl[ci]? = some (C, T, N)) (hin : ∀ w ∈ u_ws C T N, w ∈ gt) (hk : k < N) (hlink : Cond.fieldLink own index C (T k).2.1 (T k).2.2.1 ∈ gt) (hT1 : (T k).1 = C) {v : Value} (hv : fs[k]? = some v) (hdg : decode cc pc = .ok (.getfield index, 3))
    (kk : W p l e R s m args below meth c H locs cells slots Q (F0 m (pc + 3) ls (v :: rest))) : W p l e R s m args below meth c H locs cells slots Q (F0 m pc ls (.ref a :: rest)) := by
  obtain ⟨hx, hb, hml, hown, hts, hK, hnt⟩ := X
  exact va_get (D := D) (ci := ci) (v := v) (C := C) (T := T) (N := N) hx hb hts hin hown hK J.1 q0 (fs := fs) he hc k hk (hts _ hlink) (fun x h => by rw [hT1] at h; exact h) hv hdg kk
theorem nr_getN (X : nX p s m args c D cy cc nL own) (J : nJ D A H0 ws H locs) {C host : String} {T : u_T} {N index ci a : Nat} {fs : List Value} (q0 k : Nat) (he : ws[q0]? = some (a, .inr (ci, fs))) (hc : vwCl[ci]? = some (C, T, N)) (hin : ∀ w ∈ u_ws C T N, w ∈ gt) (hk : k < N) (hlink : Cond.fieldLinkNest own index C (T k).2.1 (T k).2.2.1 host ∈ nt) (hT1 : (T k).1 = C) {v : Value} (hv : fs[k]? = some v) (hdg : decode cc pc = .ok (.getfield index, 3))
    (kk : W p l e R s m args below meth c H locs cells slots Q (F0 m (pc + 3) ls (v :: rest))) : W p l e R s m args below meth c H locs cells slots Q (F0 m pc ls (.ref a :: rest)) := by
  obtain ⟨hx, hb, hml, hown, hts, hK, hnt⟩ := X
  exact va_getN (host := host) (D := D) (ci := ci) (v := v) (C := C) (T := T) (N := N) hx hb hts hin hown hK J.1 q0 (fs := fs) he hc k hk (va_Nw.use rfl (hnt _ hlink)) (fun x h => by rw [hT1] at h; exact h) hv hdg kk
theorem nr_put (X : nX p s m args c D cy cc nL own) (J : nJ D A H0 ws H locs) {C : String} {T : u_T} {N index ci a : Nat} {fs : List Value} (q0 k : Nat) (he : ws[q0]? = some (a, .inr (ci, fs))) (hc : vwCl[ci]? = some (C, T, N)) (hin : ∀ w ∈ u_ws C T N, w ∈ gt) (hk : k < N) (hlink : Cond.fieldLink own index C (T k).2.1 (T k).2.2.1 ∈ gt) (hT1 : (T k).1 = C)
    (ty0 : Nat → FieldType) (hty : ∀ k, k < N → parseFieldDescriptor (T k).2.2.1 = some (ty0 k)) (hnm : ∀ a, a < N → ∀ b, b < N → a ≠ b → (T a).2.1 ≠ (T b).2.1) (hfin : (T k).2.2.2 = false) {v : Value} (hn : narrow (ty0 k) v = v) (hfit : fits (ty0 k) v = true) (hl : k < fs.length) (hdg : decode cc pc = .ok (.putfield index, 3))
    (kk : ∀ (H1 : Heap) (locs1 : List Loc), nJ D A H0 (ws.set q0 (a, .inr (ci, fs.set k v))) H1 locs1 → W p l e R s m args below meth c H1 locs1 cells slots Q (F0 m (pc + 3) ls rest)) : W p l e R s m args below meth c H locs cells slots Q (F0 m pc ls (v :: .ref a :: rest)) := by
  obtain ⟨hx, hb, hml, hown, hts, hK, hnt⟩ := X
  exact va_put (D := D) (ci := ci) (v := v) (C := C) (T := T) (N := N) hx hb hts hin ty0 hty hnm hown hK J.1 J.2.1 J.2.2.1 q0 (fs := fs) he hc k hk (hts _ hlink) (fun x h => by rw [hT1] at h; exact h) hfin (hty k hk) hn hfit hl hdg (fun H1 locs1 hP hD hS => kk H1 locs1 ⟨hP, hD, hS, J.2.2.2⟩)
theorem nr_putF (X : nX p s m args c D cy cc nL own) (hC : nC meth) (J : nJ D A H0 ws H locs) {T : u_T} {N index ci a : Nat} {fs : List Value} (q0 k : Nat) (he : ws[q0]? = some (a, .inr (ci, fs))) (hc : vwCl[ci]? = some (own, T, N)) (hin : ∀ w ∈ u_ws own T N, w ∈ gt) (hk : k < N) (hlink : Cond.fieldLink own index own (T k).2.1 (T k).2.2.1 ∈ gt) (hT1 : (T k).1 = own)
    (ty0 : Nat → FieldType) (hty : ∀ k, k < N → parseFieldDescriptor (T k).2.2.1 = some (ty0 k)) (hnm : ∀ a, a < N → ∀ b, b < N → a ≠ b → (T a).2.1 ≠ (T b).2.1) (hfin : (T k).2.2.2 = true) {v : Value} (hn : narrow (ty0 k) v = v) (hfit : fits (ty0 k) v = true) (hl : k < fs.length) (hdg : decode cc pc = .ok (.putfield index, 3))
    (kk : ∀ (H1 : Heap) (locs1 : List Loc), nJ D A H0 (ws.set q0 (a, .inr (ci, fs.set k v))) H1 locs1 → W p l e R s m args below meth c H1 locs1 cells slots Q (F0 m (pc + 3) ls rest)) : W p l e R s m args below meth c H locs cells slots Q (F0 m pc ls (v :: .ref a :: rest)) := by
  obtain ⟨hx, hb, hml, hown, hts, hK, hnt⟩ := X
  exact va_putF (D := D) (ci := ci) (v := v) (C := own) (T := T) (N := N) hx hb hts hin ty0 hty hnm hown hK J.1 J.2.1 J.2.2.1 q0 (fs := fs) he hc k hk (hts _ hlink) (fun x h => by rw [hT1] at h; exact h) hfin hC.1 hT1 (hty k hk) hn hfit hl hdg (fun H1 locs1 hP hD hS => kk H1 locs1 ⟨hP, hD, hS, J.2.2.2⟩)
theorem nr_new (X : nX p s m args c D cy cc nL own) (J : nJ D A H0 ws H locs) {C : String} {T : u_T} {N index ci : Nat} (hc : vwCl[ci]? = some (C, T, N)) (hin : ∀ w ∈ u_ws C T N, w ∈ gt) (ty0 : Nat → FieldType) (hty : ∀ k, k < N → parseFieldDescriptor (T k).2.2.1 = some (ty0 k)) (hcl : Cond.classLink own index C ∈ gt) (hinst : Cond.instantiable C N ∈ gt) (hini : Cond.initialized C ∈ gt) {fs : List Value} (hfs : ∀ j, j < N → defaultValue (ty0 j) = vp_V fs j) (hcells : cells + 1 ≤ R.cells) (hslots : slots + N ≤ R.slots) (hdg : decode cc pc = .ok (.new index, 3))
    (kk : ∀ (q : Nat) (H1 : Heap), nJ D A H0 (ws ++ [(q, .inr (ci, fs))]) H1 locs → W p l e R s m args below meth c H1 locs (cells + 1) (slots + N) Q (F0 m (pc + 3) ls (.ref q :: rest))) : W p l e R s m args below meth c H locs cells slots Q (F0 m pc ls rest) := by
  obtain ⟨hx, hb, hml, hown, hts, hK, hnt⟩ := X
  exact va_new (ci := ci) (fs := fs) (C := C) (T := T) (N := N) hx hb hts hin ty0 hty hown (hts _ hcl) (hts _ hinst) (hts _ hini) hK J.1 J.2.1 J.2.2.1 J.2.2.2 hc hfs hcells hslots hdg (fun q H1 hP hD hS => kk q H1 ⟨hP, hD, hS, J.2.2.2⟩)
theorem RA_eq {U : State} {cA cB : ClassId} {ty : FieldType} (h0 : ∀ C, ty ≠ .object C) (h1 : va_RA U cA ty) (h2 : va_RA U cB ty) : cA = cB := by
  cases ty with
  | object C => exact absurd rfl (h0 C)
  | _ => exact Option.some.inj (Eq.trans (Eq.symm (show U.vm.findClass _ = some cA from h1)) (show U.vm.findClass _ = some cB from h2))
theorem nr_newi (X : nX p s m args c D cy cc nL own) (J : nJ D A H0 ws H locs) {n : Int32} {N' : Nat} (hn : n = nI N') (hN : N' ≤ 40000) (harr : Cond.arrayClass .int ∈ gt) (hcells : cells + 1 ≤ R.cells) (hslots : slots + N' ≤ R.slots) (hdg : decode cc pc = .ok (.newarray .int, 2))
    (kk : ∀ (q : Nat) (H1 : Heap), nJ D A H0 (ws ++ [(q, zi cy N')]) H1 locs → W p l e R s m args below meth c H1 locs (cells + 1) (slots + N') Q (F0 m (pc + 2) ls (.ref q :: rest))) : W p l e R s m args below meth c H locs cells slots Q (F0 m pc ls (.int n :: rest)) := by
  obtain ⟨hx, hb, hml, hown, hts, hK, hnt⟩ := X
  refine va_newa hx hb (atype := .int) (hts _ harr) (ty := .int) rfl hK J.1 J.2.1 J.2.2.1 J.2.2.2 (N' := N') (a0 := (N', .inl (fun _ => (0 : Int32)))) (fun cA => rfl) (by rw [hn]; exact nI_pos (by omega)) (by rw [hn]; exact nI_clamp (by omega)) (by show N' * 4 ≤ _; omega) hcells hslots hdg (fun q cA H1 hK1 hP hD hS => ?_)
  have e : cA = cy 0 := RA_eq (fun C h => by cases h) (hK1.2 3 (cA, .int) rfl).2 (hK.2 0 (cy 0, .int) rfl).2
  subst e
  exact kk q H1 ⟨hP, hD, hS, J.2.2.2⟩
theorem nr_newl (X : nX p s m args c D cy cc nL own) (J : nJ D A H0 ws H locs) {n : Int32} {N' : Nat} (hn : n = nI N') (hN : N' ≤ 40000) (harr : Cond.arrayClass .long ∈ gt) (hcells : cells + 1 ≤ R.cells) (hslots : slots + N' ≤ R.slots) (hdg : decode cc pc = .ok (.newarray .long, 2))
    (kk : ∀ (q : Nat) (H1 : Heap), nJ D A H0 (ws ++ [(q, zl cy N')]) H1 locs → W p l e R s m args below meth c H1 locs (cells + 1) (slots + N') Q (F0 m (pc + 2) ls (.ref q :: rest))) : W p l e R s m args below meth c H locs cells slots Q (F0 m pc ls (.int n :: rest)) := by
  obtain ⟨hx, hb, hml, hown, hts, hK, hnt⟩ := X
  refine va_newa hx hb (atype := .long) (hts _ harr) (ty := .long) rfl hK J.1 J.2.1 J.2.2.1 J.2.2.2 (N' := N') (a0 := (N', .inr (.inl (fun _ => (0 : Int64))))) (fun cA => rfl) (by rw [hn]; exact nI_pos (by omega)) (by rw [hn]; exact nI_clamp (by omega)) (by show N' * 8 ≤ _; omega) hcells hslots hdg (fun q cA H1 hK1 hP hD hS => ?_)
  have e : cA = cy 1 := RA_eq (fun C h => by cases h) (hK1.2 3 (cA, .long) rfl).2 (hK.2 1 (cy 1, .long) rfl).2
  subst e
  exact kk q H1 ⟨hP, hD, hS, J.2.2.2⟩
theorem nr_newz (X : nX p s m args c D cy cc nL own) (J : nJ D A H0 ws H locs) {n : Int32} {N' : Nat} (hn : n = nI N') (hN : N' ≤ 40000) (harr : Cond.arrayClass .boolean ∈ gt) (hcells : cells + 1 ≤ R.cells) (hslots : slots + N' ≤ R.slots) (hdg : decode cc pc = .ok (.newarray .boolean, 2))
    (kk : ∀ (q : Nat) (H1 : Heap), nJ D A H0 (ws ++ [(q, zz cy N')]) H1 locs → W p l e R s m args below meth c H1 locs (cells + 1) (slots + N') Q (F0 m (pc + 2) ls (.ref q :: rest))) : W p l e R s m args below meth c H locs cells slots Q (F0 m pc ls (.int n :: rest)) := by
  obtain ⟨hx, hb, hml, hown, hts, hK, hnt⟩ := X
  refine va_newa hx hb (atype := .boolean) (hts _ harr) (ty := .boolean) rfl hK J.1 J.2.1 J.2.2.1 J.2.2.2 (N' := N') (a0 := (N', .inl (fun _ => (0 : Int32)))) (fun cA => rfl) (by rw [hn]; exact nI_pos (by omega)) (by rw [hn]; exact nI_clamp (by omega)) (by show N' * 1 ≤ _; omega) hcells hslots hdg (fun q cA H1 hK1 hP hD hS => ?_)
  have e : cA = cy 2 := RA_eq (fun C h => by cases h) (hK1.2 3 (cA, .boolean) rfl).2 (hK.2 2 (cy 2, .boolean) rfl).2
  subst e
  exact kk q H1 ⟨hP, hD, hS, J.2.2.2⟩
theorem nr_obj (X : nX p s m args c D cy cc nL own) {index a : Nat} (hlink : Cond.methodLink own index objectInit ∈ gt) (hinst : Cond.instanceMethod objectInit ∈ gt) (hcode : Cond.code objectInit ⟨#[0xb1]⟩ 1 none ∈ gt) (hsize : ls.size = nL) (hfr : 1 ≤ R.frames) (hlo : (rest.map fun v => v.category).sum + 12 ≤ R.locals) (hdg : decode cc pc = .ok (.invokespecial index, 3))
    (kk : W p l e R s m args below meth c H locs cells slots Q (F0 m (pc + 3) ls rest)) : W p l e R s m args below meth c H locs cells slots Q (F0 m pc ls (.ref a :: rest)) := by
  obtain ⟨hx, hb, hml, hown, hts, hK, hnt⟩ := X
  refine W.objInit hx hb hown (hts _ hlink) (hts _ hinst) (hts _ hcode) rfl (by rw [hml]; exact hsize) rfl hdg hfr (by show 2 * 0 + _ + 12 ≤ _; omega) ?_
  exact W.eq (g2 := F0 m (pc + 3) ls rest) rfl kk
/-- the words of a constructor that is called -/
def nY (y : MethodName) (bytes : ByteArray) (maxL n : Nat) : Prop := zY y bytes maxL none n ∧ Cond.instanceMethod y ∈ gt ∧ y.name = "<init>"
variable {y : MethodName} {bytes : ByteArray} {maxL d mc ms n index a : Nat} {As : List Value} {wc wr : va_W} {post : (Nat → Nat) → va_W}
theorem nr_callN {host : String} (X : nX p s m args c D cy cc nL own) (J : nJ D A H0 ws H locs) (isC isR : List Nat) (hC : isC.map (fun i => ws[i]?) = wc.map some) (hR : isR.map (fun i => ws[i]?) = wr.map some) (hnC : va_nd isC = true) (hnR : va_nd isR = true) (hdis : ∀ i ∈ isR, i ∉ isC) (hY : nY y bytes maxL n) (hl : Cond.methodLinkNest own index y host ∈ nt) (hRm : d + 1 ≤ R.frames ∧ 8 + (maxL + 11) + 60 * d ≤ R.locals) (hsize : ls.size = nL) (hn : As.length = n) (hW : (rest.map fun v => v.category).sum ≤ 8) (hM : nM l y bytes maxL d mc ms D cy (.ref a :: As) wc post) (hdg : decode cc pc = .ok (.invokespecial index, 3)) (hf : cells + mc ≤ R.cells ∧ slots + ms ≤ R.slots)
    (kk : ∀ (ad : Nat → Nat) (H1 : Heap) (locs1 : List Loc), nJ D A H0 (wr ++ post ad) H1 locs1 → W p l e R s m args below meth c H1 locs1 (cells + mc) (slots + ms) Q (F0 m (pc + 3) ls rest)) : W p l e R s m args below meth c H locs cells slots Q (F0 m pc ls (As.reverse ++ .ref a :: rest)) := by
  obtain ⟨hx, hb, hml, hown, hts, hK, hnt⟩ := X
  have hPc := P_map J.1 isC hC
  have hDc := J.2.1.sub isC hnC hC
  have hFc := va_free J.2.1 J.2.2.1 J.2.2.2 isC hC
  refine va_callv (va_runIN (As := As) (rest := rest) ⟨hx, hb, hml, hown, hts⟩ (hM H.size) ⟨va_cnB n hts (gt_sub (fun w h => h) hY.1.1) rfl rfl rfl (hnt _ hl) (hts _ hY.1.2.1) hY.1.2.2 hRm, hY.2.2, hts _ hY.2.1⟩ ⟨nPre_blind, fun U hU hW => ⟨rfl, by rw [hU], by rw [hU]; exact hPc, va_K.moved hW.alike hK, hDc.weaken (fun _ _ _ _ => trivial), nt_warm hW hnt⟩⟩ rfl hn hsize rfl (lv_room hW) hdg hf) J.2.2.1 (fun q _ h => hFc q h) hFc (fun ad t H1 locs1 ht hvm hw hB hz1 hk1 hS => ?_)
  obtain ⟨hP1, hD1⟩ := hB
  rw [ht] at hP1
  obtain ⟨hP', hD'⟩ := va_join (wr := wr) (w1 := post ad) J.1 J.2.1 isC isR hC hR hnR hdis hk1 hFc hP1 hD1
  exact kk ad H1 locs1 ⟨hP', hD', hS, J.2.2.2⟩
/-- from a constructor's walk to its contract -/
theorem nM_of {av : List Value} {w0 : va_W} (hy : plainName y.cls = true) (hlen : (lg_sl av).length ≤ maxL)
    (body : ∀ (p : Program) (e : Env) (s : State) (m : MethodId) (args : Array Value) (below : List Frame) (meth : Method) (c : Code) (ls : Array Slot) (A : Nat → Prop) (H : Heap) (locs : List Loc), nX p s m args c D cy bytes maxL y.cls → (y.name = "<init>" → nC meth) → nJ D A s.heap w0 H locs → lv_has ls maxL (lv_args 0 av) →
      W p l e (nRm d mc ms) s m args below meth c H locs 0 0 (MQ below (va_Qv (fun (_ : Nat → Nat) => True) (fun ad t => va_P D vwCl (post ad) t.heap ∧ va_D A (post ad)) A) args s mc ms A) (F0 m 0 ls [])) : nM l y bytes maxL d mc ms D cy av w0 post := by
  intro sz
  refine Met.ofW (cc := bytes) (maxL := maxL) (ret := none) hy rfl ?_
  intro p e s m args below meth c s₁ B hml hv
  obtain ⟨rfl, hsz, hP, hK, hD, hnt⟩ := hv
  have hts := atoms_spec (ws := .code y bytes maxL none :: gt) B.pre
  have hown : s.vm.findClass y.cls = some m.cls := findClass_of_methodNamed B.named
  subst hsz
  have hl := lv_entry av (n := maxL) hlen
  rw [lg_entry_eq]
  exact body p e s m _ below meth c _ (va_A w0 s.heap.size) _ _ ⟨B.exec, B.bytes, hml, hown, fun w h => hts w (List.mem_cons_of_mem _ h), hK, hnt⟩ (fun hi => ⟨(name_of_methodNamed B.named B.method).1.trans hi, B.returns, B.notSynchronized⟩) ⟨hP, hD.self, va_S.rf, fun q h => Or.inr h⟩ hl
theorem nr_ret (X : nX p s m args c D cy cc nL own) (hC : nC meth) (J : nJ D A s.heap ws H locs) (ad : Nat → Nat) (is : List Nat) (hn : va_nd is = true) (his : is.map (fun i => ws[i]?) = (post ad).map some) (hc : cells ≤ mc) (hs : slots ≤ ms) (hdg : decode cc pc = .ok (.return_, 1)) : W p l e R s m args below meth c H locs cells slots (MQ below (va_Qv (fun (_ : Nat → Nat) => True) (fun ad t => va_P D vwCl (post ad) t.heap ∧ va_D A (post ad)) A) args s mc ms A) (F0 m pc ls []) := by
  obtain ⟨hx, hb, hml, hown, hts, hK, hnt⟩ := X
  refine W.widen hc hs ?_
  have hlk := hC.2.2
  exact W.vret hx hb hC.2.1 (fun t ht hW => ⟨⟨ad, rfl, trivial, by rw [ht]; exact P_map J.1 is his, J.2.1.sub is hn his⟩, J.2.2.1.F ht⟩) J.2.2.1.2.2 hdg
/-- a static method that makes an int out of ints -/
def nMi (l : Launch) (y : MethodName) (cc : ByteArray) (nL d : Nat) (av : List Value) (B : State → Prop) (r : Int32) : Prop :=
  Met l y (.code y cc nL (some .int) :: gt) (zRm d) (va_Pc av B) (va_Qi (fun r' (_ : Unit) => r' = r) (fun _ _ => True) (fun _ => False)) 0 0 (fun _ => False)
theorem nr_calls {B : State → Prop} {r : Int32} (X : nX p s m args c D cy cc nL own) (J : nJ D A H0 ws H locs) (hB : FrameBlind (va_Pc As B)) (hB2 : ∀ U : State, U.heap = H → s.WarmedH U.vm → B U) (hY : zYs y bytes maxL (some .int) n) (hl : Cond.methodLink own index y ∈ gt) (hRm : d + 1 ≤ R.frames ∧ 8 + (maxL + 11) + 60 * d ≤ R.locals) (hsize : ls.size = nL) (hn : As.length = n) (hW : (rest.map fun v => v.category).sum ≤ 8) (hM : nMi l y bytes maxL d As B r) (hdg : decode cc pc = .ok (.invokestatic index, 3)) (hc : cells ≤ R.cells) (hs : slots ≤ R.slots)
    (kk : ∀ (H1 : Heap) (locs1 : List Loc), nJ D A H0 ws H1 locs1 → W p l e R s m args below meth c H1 locs1 cells slots Q (F0 m (pc + 3) ls (.int r :: rest))) : W p l e R s m args below meth c H locs cells slots Q (F0 m pc ls (As.reverse ++ rest)) := by
  obtain ⟨hx, hb, hml, hown, hts, hK, hnt⟩ := X
  refine va_calli (va_runS (As := As) (rest := rest) ⟨hx, hb, hml, hown, hts⟩ hM ⟨callB_of n hts (gt_sub (fun w h => h) hY.1.1) rfl rfl rfl (hts _ hY.1.2.1) (hts _ hl) hY.1.2.2 hRm, hts _ hY.2⟩ ⟨hB, fun U hU hW => ⟨rfl, hB2 U hU hW⟩⟩ rfl hn hsize rfl (lv_room hW) hdg ⟨hc, hs⟩) J.2.2.1 (fun q _ h => h.elim) (fun q h => h.elim) (fun r0 u0 t H1 locs1 ht hvm hw hB hz1 hk1 hS => ?_)
  subst hw
  exact kk H1 locs1 ⟨J.1.kept (fun k x hx => hk1 _ ((J.1 k x hx).lt) (fun h => h)), J.2.1, hS, J.2.2.2⟩
end
