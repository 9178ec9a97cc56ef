/-! THE WORLD: a system of objects and arrays with fixed numbers ('ids'), its contents as functions -/
abbrev zSt : Type := (Nat → Nat → Int32) × (Nat → Nat → Int64) × (Nat → Nat → Nat) × (Nat → Nat → Int32) × (Nat → Nat → Int64)
def zup {α : Type} (f : Nat → Nat → α) (o k : Nat) (v : α) : Nat → Nat → α := fun i j => if i = o ∧ j = k then v else f i j
def zI (σ : zSt) (o k : Nat) : Int32 := σ.1 o k
def zL (σ : zSt) (o k : Nat) : Int64 := σ.2.1 o k
def zR (σ : zSt) (o k : Nat) : Nat := σ.2.2.1 o k
def zA (σ : zSt) (a j : Nat) : Int32 := σ.2.2.2.1 a j
def zB (σ : zSt) (a j : Nat) : Int64 := σ.2.2.2.2 a j
def zsI (σ : zSt) (o k : Nat) (v : Int32) : zSt := (zup σ.1 o k v, σ.2)
def zsL (σ : zSt) (o k : Nat) (v : Int64) : zSt := (σ.1, zup σ.2.1 o k v, σ.2.2)
def zsR (σ : zSt) (o k : Nat) (v : Nat) : zSt := (σ.1, σ.2.1, zup σ.2.2.1 o k v, σ.2.2.2)
def zsA (σ : zSt) (a j : Nat) (v : Int32) : zSt := (σ.1, σ.2.1, σ.2.2.1, zup σ.2.2.2.1 a j v, σ.2.2.2.2)
def zsB (σ : zSt) (a j : Nat) (v : Int64) : zSt := (σ.1, σ.2.1, σ.2.2.1, σ.2.2.2.1, zup σ.2.2.2.2 a j v)
/-- a shape: how many objects, how many things in all, an object's class, what a field is (0 int, 1 long, 2 a reference that changes, n + 3 always the thing n), what an array is (0 int, 1 long, 2 boolean) -/
abbrev zSh : Type := Nat × Nat × (Nat → Nat) × (Nat → Nat → Nat) × (Nat → Nat)
def zV (S : zSh) (ad : Nat → Nat) (σ : zSt) (o k : Nat) : Value := match S.2.2.2.1 o k with
  | 0 => .int (zI σ o k)
  | 1 => .long (zL σ o k)
  | 2 => (match zR σ o k with
    | 0 => .null
    | n + 1 => .ref (ad n))
  | n + 3 => .ref (ad n)
def zN (c : Nat) : Nat := match vwCl[c]? with
  | some q => q.2.2
  | none => 0
def zE (S : zSh) (ad : Nat → Nat) (cy : Nat → ClassId) (ln : Nat → Nat) (σ : zSt) (q : Nat) : va_E :=
  if q < S.1 then .inr (S.2.2.1 q, (List.range (zN (S.2.2.1 q))).map (zV S ad σ q))
  else .inl (cy (S.2.2.2.2 q), ln q, if S.2.2.2.2 q = 1 then .inr (.inl (zB σ q)) else .inl (zA σ q))
def zW (S : zSh) (ad : Nat → Nat) (cy : Nat → ClassId) (ln : Nat → Nat) (σ : zSt) : va_W := (List.range S.2.1).map (fun q => (ad q, zE S ad cy ln σ q))
def zAd (S : zSh) (ad : Nat → Nat) : Nat → Prop := fun q => ∃ i, i < S.2.1 ∧ ad i = q
def zTy (cy : Nat → ClassId) : List (ClassId × FieldType) := [(cy 0, .int), (cy 1, .long), (cy 2, .boolean)]
def zIn (S : zSh) (ad : Nat → Nat) : Prop := ∀ i j, i < S.2.1 → j < S.2.1 → ad i = ad j → i = j
theorem zW_at {S : zSh} {ad : Nat → Nat} {cy : Nat → ClassId} {ln : Nat → Nat} {σ : zSt} {q : Nat} (h : q < S.2.1) : (zW S ad cy ln σ)[q]? = some (ad q, zE S ad cy ln σ q) := by
  unfold zW
  rw [List.getElem?_map, List.getElem?_range h]
  rfl
theorem zW_inv {S : zSh} {ad : Nat → Nat} {cy : Nat → ClassId} {ln : Nat → Nat} {σ : zSt} {k : Nat} {x : Nat × va_E} (h : (zW S ad cy ln σ)[k]? = some x) : k < S.2.1 ∧ x = (ad k, zE S ad cy ln σ k) := by
  have hk : k < S.2.1 := by
    have h1 := (List.getElem?_eq_some_iff.mp h).1
    simpa [zW] using h1
  refine ⟨hk, ?_⟩
  rw [zW_at hk] at h
  exact (Option.some.inj h).symm
theorem zW_D {S : zSh} {ad : Nat → Nat} {cy : Nat → ClassId} {ln : Nat → Nat} {σ : zSt} (h : zIn S ad) : va_D (zAd S ad) (zW S ad cy ln σ) := by
  refine ⟨fun i j p q hp hq e => ?_, fun k q hq => ?_⟩
  · obtain ⟨h1, rfl⟩ := zW_inv hp
    obtain ⟨h2, rfl⟩ := zW_inv hq
    exact h i j h1 h2 e
  · obtain ⟨h1, rfl⟩ := zW_inv hq
    exact ⟨k, h1, rfl⟩
theorem zW_set {S : zSh} {ad : Nat → Nat} {cy : Nat → ClassId} {ln : Nat → Nat} {σ τ : zSt} {q : Nat} (h : ∀ i, i ≠ q → zE S ad cy ln τ i = zE S ad cy ln σ i) : (zW S ad cy ln σ).set q (ad q, zE S ad cy ln τ q) = zW S ad cy ln τ := by
  apply List.ext_getElem?
  intro i
  rw [List.getElem?_set]
  by_cases hq : q = i
  · subst hq
    by_cases hl : q < S.2.1
    · rw [zW_at hl]
      simp [zW, hl]
    · simp [zW, hl]
  · simp only [hq, if_false]
    by_cases hl : i < S.2.1
    · rw [zW_at hl, zW_at hl, h i (fun e => hq e.symm)]
    · simp [zW, hl]
/-- the list of a class's fields with one changed -/
theorem zF_set {N k : Nat} {f g : Nat → Value} (hk : k < N) (h : ∀ j, j ≠ k → g j = f j) : ((List.range N).map f).set k (g k) = (List.range N).map g := by
  apply List.ext_getElem?
  intro i
  rw [List.getElem?_set]
  by_cases hq : k = i
  · subst hq
    simp [hk]
  · simp only [hq, if_false]
    by_cases hl : i < N
    · simp [hl, h i (fun e => hq e.symm)]
    · simp [hl]
theorem zF_at {N k : Nat} {f : Nat → Value} (hk : k < N) : ((List.range N).map f)[k]? = some (f k) := by simp [hk]
def gt : List Cond := lw_tbl.filter goodWord
theorem gt_in {w : Cond} (h : w ∈ lw_tbl) (h2 : goodWord w = true) : w ∈ gt := List.mem_filter.mpr ⟨h, h2⟩
theorem gt_good {w : Cond} (h : w ∈ gt) : (w.onTables && w.keeps) = true ∨ ∃ ty, w = .arrayClass ty := good_of_word (List.mem_filter.mp h).2
theorem gt_sub {Ts : List Cond} (h : ∀ w ∈ gt, w ∈ Ts) {w0 : Cond} (h0 : w0 ∈ gt) : GoodIn Ts (w0 :: gt) := by
  intro w hw
  have : w ∈ gt := by
    rcases List.mem_cons.mp hw with e | e
    · rw [e]; exact h0
    · exact e
  exact ⟨h w this, gt_good this⟩
def isNest : Cond → Bool
  | .methodLinkNest _ _ _ _ => true
  | .fieldLinkNest _ _ _ _ _ _ => true
  | _ => false
/-- the words on nest mates: they aren't among those that a method's list may hold, so a method's beginning says them -/
def nt : List Cond := lw_tbl.filter isNest
theorem nt_in {w : Cond} (h : w ∈ lw_tbl) (h2 : isNest w = true) : w ∈ nt := List.mem_filter.mpr ⟨h, h2⟩
theorem nest_warm {w : Cond} (h : isNest w = true) {s U : State} (hW : s.WarmedH U.vm) (hZ : va_Nw w s) : va_Nw w U := by
  cases w <;> first | exact va_Nw.warmM hW hZ | exact va_Nw.warmF hW hZ | cases h
theorem nest_same {w : Cond} (h : isNest w = true) {s U : State} (hW : s.vm = U.vm) (hZ : va_Nw w s) : va_Nw w U := by
  cases w <;> first | exact va_Nw.same rfl hW hZ | cases h
theorem nt_warm {s U : State} (hW : s.WarmedH U.vm) (hZ : ∀ w ∈ nt, va_Nw w s) : ∀ w ∈ nt, va_Nw w U := fun w hw => nest_warm (List.mem_filter.mp hw).2 hW (hZ w hw)
theorem nt_same {s U : State} (hW : s.vm = U.vm) (hZ : ∀ w ∈ nt, va_Nw w s) : ∀ w ∈ nt, va_Nw w U := fun w hw => nest_same (List.mem_filter.mp hw).2 hW (hZ w hw)
def bnd {α β : Type} (a : α) (f : α → β) : β := f a
theorem bnd_eq {α β : Type} {a b : α} {f : α → β} {o : β} (h : b = a) (hf : bnd a f = o) : f b = o := by rw [h]; exact hf
def obd {α β : Type} (x : Option (α × zSt)) (f : α → zSt → Option β) : Option β := match x with
  | none => none
  | some q => f q.1 q.2
theorem obd_some {α β : Type} {x : Option (α × zSt)} {f : α → zSt → Option β} {o : β} (h : obd x f = some o) : ∃ r u, x = some (r, u) ∧ f r u = some o := by
  cases x with
  | none => cases h
  | some q => exact ⟨q.1, q.2, rfl, h⟩
theorem itp {α : Type} {c : Prop} [Decidable c] {a b o : α} (h : c) (hf : (if c then a else b) = o) : a = o := by rw [if_pos h] at hf; exact hf
theorem itn {α : Type} {c : Prop} [Decidable c] {a b o : α} (h : ¬ c) (hf : (if c then a else b) = o) : b = o := by rw [if_neg h] at hf; exact hf
theorem itx {α : Type} {c : Prop} [Decidable c] {a : Option α} {o : α} (hf : (if c then none else a) = some o) : ¬ c ∧ a = some o := by
  by_cases h : c
  · rw [if_pos h] at hf; cases hf
  · rw [if_neg h] at hf; exact ⟨h, hf⟩
theorem ity {α : Type} {c : Prop} [Decidable c] {a : Option α} {o : α} (hf : (if c then a else none) = some o) : c ∧ a = some o := by
  by_cases h : c
  · rw [if_pos h] at hf; exact ⟨h, hf⟩
  · rw [if_neg h] at hf; cases hf
theorem z01 {v : Int32} (h : v = 0 ∨ v = 1) : narrow .boolean (.int v) = .int v := by rcases h with rfl | rfl <;> decide
theorem z01f {v : Int32} (h : v = 0 ∨ v = 1) : fits .boolean (.int v) = true := by rcases h with rfl | rfl <;> decide
theorem z01n {v : Int32} (h : v = 0 ∨ v = 1) : vp_nar .boolean v = v := by rcases h with rfl | rfl <;> decide
def zRm (d : Nat) : Room := { frames := d, cells := 0, slots := 0, locals := 60 * d }
/-- what holds of the machine while a method runs -/
def zX (p : Program) (s : State) (m : MethodId) (args : Array Value) (meth : Method) (c : Code) (D : va_G) (cy : Nat → ClassId) (S : zSh) (ad : Nat → Nat) (ts : Nat → Nat) (cc : ByteArray) (nL : Nat) (ret : Option FieldType) (own : String) : Prop :=
  p.tables.exec = Jvm.exec ∧ c.code = cc ∧ c.maxLocals = nL ∧ s.vm.findClass own = some m.cls ∧ (∀ w ∈ gt, w.before args s = true) ∧ va_K D vwCl (zTy cy) s ∧ zIn S ad ∧ meth.sig.returnType = ret ∧ meth.locks = false ∧ (∀ w ∈ nt, va_Nw w s) ∧ zStat (zAd S ad) ts s
def zJ (D : va_G) (cy : Nat → ClassId) (S : zSh) (ad : Nat → Nat) (ln : Nat → Nat) (s : State) (σ : zSt) (H : Heap) (locs : List Loc) : Prop := va_P D vwCl (zW S ad cy ln σ) H ∧ va_S (zAd S ad) s.heap H locs
def zPre (D : va_G) (cy : Nat → ClassId) (S : zSh) (ad ts : Nat → Nat) (ln : Nat → Nat) (σ : zSt) (U : State) : Prop := va_P D vwCl (zW S ad cy ln σ) U.heap ∧ va_K D vwCl (zTy cy) U ∧ zIn S ad ∧ (∀ w ∈ nt, va_Nw w U) ∧ zStat (zAd S ad) ts U
def zMi (l : Launch) (y : MethodName) (cc : ByteArray) (nL : Nat) (ret : Option FieldType) (d : Nat) (D : va_G) (cy : Nat → ClassId) (S : zSh) (ad ts : Nat → Nat) (ln : Nat → Nat) (av : List Value) (σ : zSt) (r : Int32) (u : zSt) : Prop :=
  Met l y (.code y cc nL ret :: gt) (zRm d) (va_Pc av (zPre D cy S ad ts ln σ)) (va_Qi (fun r' (u' : zSt) => r' = r ∧ u' = u) (zPre D cy S ad ts ln) (zAd S ad)) 0 0 (zAd S ad)
def zMl (l : Launch) (y : MethodName) (cc : ByteArray) (nL : Nat) (ret : Option FieldType) (d : Nat) (D : va_G) (cy : Nat → ClassId) (S : zSh) (ad ts : Nat → Nat) (ln : Nat → Nat) (av : List Value) (σ : zSt) (r : Int64) (u : zSt) : Prop :=
  Met l y (.code y cc nL ret :: gt) (zRm d) (va_Pc av (zPre D cy S ad ts ln σ)) (va_Ql (fun r' (u' : zSt) => r' = r ∧ u' = u) (zPre D cy S ad ts ln) (zAd S ad)) 0 0 (zAd S ad)
def zMv (l : Launch) (y : MethodName) (cc : ByteArray) (nL : Nat) (ret : Option FieldType) (d : Nat) (D : va_G) (cy : Nat → ClassId) (S : zSh) (ad ts : Nat → Nat) (ln : Nat → Nat) (av : List Value) (σ : zSt) (u : zSt) : Prop :=
  Met l y (.code y cc nL ret :: gt) (zRm d) (va_Pc av (zPre D cy S ad ts ln σ)) (va_Qv (fun (u' : zSt) => u' = u) (zPre D cy S ad ts ln) (zAd S ad)) 0 0 (zAd S ad)
theorem zR_ok {d e k : Nat} (h : e < d) (hk : k ≤ 41) : e + 1 ≤ (zRm d).frames ∧ 8 + (k + 11) + 60 * e ≤ (zRm d).locals := by
  unfold zRm
  constructor
  · exact h
  · show 8 + (k + 11) + 60 * e ≤ 60 * d
    omega
/-- a reference that is one of two -/
def rbd {β : Type} (r a b : Nat) (f : Nat → Option β) : Option β := if r = a + 1 then f a else if r = b + 1 then f b else none
theorem rbd_some {β : Type} {r a b : Nat} {f : Nat → Option β} {o : β} (h : rbd r a b f = some o) : ∃ q, (q = a ∨ q = b) ∧ r = q + 1 ∧ f q = some o := by
  unfold rbd at h
  by_cases h1 : r = a + 1
  · rw [if_pos h1] at h; exact ⟨a, Or.inl rfl, h1, h⟩
  · rw [if_neg h1] at h
    by_cases h2 : r = b + 1
    · rw [if_pos h2] at h; exact ⟨b, Or.inr rfl, h2, h⟩
    · rw [if_neg h2] at h; cases h
