/-! THE MIDDLE: a pure reader of the text. Trees are Std.Format: fN a node (kind, two numbers, three parts), fC a cell of a list, fZ none. -/
abbrev fT : Type := Std.Format
def fZ : fT := .nil
def fN (k : Nat) (v w : Int) (A B C : fT) : fT := .tag k (.nest v (.nest w (.append A (.append B C))))
def fC (t r : fT) : fT := .append t r
def ff {β : Type} (z : β) (nd : Nat → Int → Int → β → β → β → β) (cl : β → β → β) : fT → β
  | .tag k (.nest v (.nest w (.append A (.append B C)))) => nd k v w (ff z nd cl A) (ff z nd cl B) (ff z nd cl C)
  | .append t r => cl (ff z nd cl t) (ff z nd cl r)
  | _ => z
theorem ff_Z {β : Type} (z : β) (nd : Nat → Int → Int → β → β → β → β) (cl : β → β → β) : ff z nd cl fZ = z := by simp [fZ, ff]
theorem ff_N {β : Type} (z : β) (nd : Nat → Int → Int → β → β → β → β) (cl : β → β → β) (k : Nat) (v w : Int) (A B C : fT) : ff z nd cl (fN k v w A B C) = nd k v w (ff z nd cl A) (ff z nd cl B) (ff z nd cl C) := by simp [fN, ff]
theorem ff_C {β : Type} (z : β) (nd : Nat → Int → Int → β → β → β → β) (cl : β → β → β) (t r : fT) : ff z nd cl (fC t r) = cl (ff z nd cl t) (ff z nd cl r) := by simp [fC, ff]
/-- what is neither a node nor a cell counts as none -/
def isZ (t : fT) : Prop := ∀ (β : Type) (z : β) (nd : Nat → Int → Int → β → β → β → β) (cl : β → β → β), ff z nd cl t = z
theorem ff_ind {P : fT → Prop} (hz : ∀ t, isZ t → P t) (hn : ∀ k v w A B C, P A → P B → P C → P (fN k v w A B C)) (hc : ∀ t r, P t → P r → P (fC t r)) : ∀ t, P t := by
  have key : ∀ (m : Nat) (t : fT), SizeOf.sizeOf t < m → P t := by
    intro m
    induction m with
    | zero => intro t h; omega
    | succ m ih =>
      intro t hs
      by_cases h1 : ∃ k v w A B C, t = fN k v w A B C
      · obtain ⟨k, v, w, A, B, C, rfl⟩ := h1
        simp only [fN, Std.Format.tag.sizeOf_spec, Std.Format.nest.sizeOf_spec, Std.Format.append.sizeOf_spec] at hs
        exact hn k v w A B C (ih A (by omega)) (ih B (by omega)) (ih C (by omega))
      · by_cases h2 : ∃ s r, t = fC s r
        · obtain ⟨a, b, rfl⟩ := h2
          simp only [fC, Std.Format.append.sizeOf_spec] at hs
          exact hc a b (ih a (by omega)) (ih b (by omega))
        · refine hz t (fun β z nd cl => ?_)
          unfold ff
          split
          · exact (h1 ⟨_, _, _, _, _, _, rfl⟩).elim
          · exact (h2 ⟨_, _, rfl⟩).elim
          · rfl
  exact fun t => key (SizeOf.sizeOf t + 1) t (by omega)
/-- an answer that may be what is wrong (0: too little fuel, which never comes) -/
def xb {α β : Type} (a : Except Int32 α) (f : α → Except Int32 β) : Except Int32 β := match a with
  | .error e => .error e
  | .ok v => f v
theorem xb_e {α β : Type} (e : Int32) (f : α → Except Int32 β) : xb (.error e) f = .error e := rfl
theorem xb_k {α β : Type} (v : α) (f : α → Except Int32 β) : xb (.ok v) f = f v := rfl
/-- a token: its end, its place, its kind (the class's number), what is told -/
abbrev yTok : Type := Nat × Nat × Int32 × Int64
def yAt (x : Nat → Int32) (n p : Nat) : yTok := ((lxTok x n p).1, (lxTok x n p).2.1, kOf (lxTok x n p).2.2.1 (lxTok x n p).2.2.2, (lxTok x n p).2.2.2)
def er {α : Type} (k : Int32) (p : Nat) : Except Int32 α := .error (k + 16 * nI p)
def cm (x : Nat → Int32) (n : Nat) (t : yTok) : Except Int32 yTok := if (yAt x n t.1).2.2.1 = -1 then er 1 (yAt x n t.1).2.1 else .ok (yAt x n t.1)
def fo (tc c p : Nat) : Except Int32 Nat := if tc < c + 4 then er 9 p else .ok (c + 4)
def ne (ns p : Nat) : Except Int32 Unit := if ns = 40 then er 8 p else .ok ()
def need (k : Int32) (t : yTok) : Except Int32 Unit := if t.2.2.1 = k then .ok () else er 2 t.2.1
/-- the last place below m where f has w -/
def lkN (f : Nat → Int64) (w : Int64) : Nat → Option Nat
  | 0 => none
  | m + 1 => if f m = w then some m else lkN f w m
/-- GLOBALS and FUNCTIONS: their words, sorts (0 a variable, 1 an array, 2 a FUNCTION), addresses, counts; how many -/
abbrev gE : Type := (Nat → Int64) × (Nat → Int32) × (Nat → Int32) × (Nat → Int32) × Nat
/-- parameters and LOCALS: their words, places; how many -/
abbrev lE : Type := (Nat → Int64) × (Nat → Int32) × Nat
def look (G : gE) (L : lE) (w : Int64) : Option (Nat ⊕ Nat) := match lkN L.1 w L.2.2 with
  | some j => some (.inl j)
  | none => (match lkN G.1 w G.2.2.2.2 with
    | some g => some (.inr g)
    | none => none)
def kdOf (G : gE) : Nat ⊕ Nat → Int32
  | .inl _ => 0
  | .inr g => G.2.1 g
def adOf (G : gE) : Nat ⊕ Nat → Int32
  | .inl _ => 0
  | .inr g => G.2.2.1 g
def mnOf (G : gE) : Nat ⊕ Nat → Int32
  | .inl _ => 0
  | .inr g => G.2.2.2.1 g
def ixOf : Nat ⊕ Nat → Nat
  | .inl _ => 0
  | .inr g => g
def vrN (G : gE) (L : lE) : Nat ⊕ Nat → fT
  | .inl j => fN 3 (L.2.1 j).toInt 0 fZ fZ fZ
  | .inr g => fN 2 (G.2.2.1 g).toInt 0 fZ fZ fZ
def rk (k : Int32) : Nat := if k = 9 then 1 else if k = 8 then 2 else if k = 10 then 3 else if k = 11 then 4 else if k = 12 then 5 else if k = 13 ∨ k = 14 then 6 else if k = 15 ∨ k = 16 ∨ k = 17 ∨ k = 18 then 7 else if k = 19 ∨ k = 20 then 8 else if k = 21 ∨ k = 22 then 9 else if k = 23 ∨ k = 27 ∨ k = 28 then 10 else 0
def isOne (s : Int32) : Bool := decide (s = 24 ∨ s = 25 ∨ s = 26)
def onN (s : Int32) (A : fT) : fT := fN 5 s.toInt 0 A fZ fZ
def opN (s : Int32) (A B : fT) : fT := if s = 9 then fN 8 28 0 A B fZ else if s = 8 then fN 7 28 0 A B fZ else fN 6 s.toInt 0 A B fZ
/-- signs that wait, the last one first, each with its first part -/
abbrev yOps : Type := List (Int32 × fT)
def clO : yOps → fT → yOps × fT
  | [], t => ([], t)
  | o :: r, t => if isOne o.1 = true then clO r (onN o.1 t) else (o :: r, t)
def jnA (k : Nat) : yOps → fT → yOps × fT
  | [], t => ([], t)
  | o :: r, t => if rk o.1 < k then (o :: r, t) else jnA k r (opN o.1 o.2 t)
abbrev yRec : Type := Nat → Int32 → yTok → Nat → Except Int32 (fT × yTok × Nat)
def yOne (k : Int32) : Int32 := if k = 22 then 24 else k
def yOpen (x : Nat → Int32) (n tc : Nat) : Nat → yOps → Nat → yTok → Nat → Except Int32 (yOps × Nat × yTok × Nat)
  | 0, _, _, _, _ => .error 0
  | f + 1, ops, ns, tk, c => if isOne (yOne tk.2.2.1) = true then (
      xb (ne ns tk.2.1) (fun _ => xb (fo tc c tk.2.1) (fun c1 => xb (cm x n tk) (fun t1 => yOpen x n tc f ((yOne tk.2.2.1, fZ) :: ops) (ns + 1) t1 c1))))
    else .ok (ops, ns, tk, c)
def yParts (x : Nat → Int32) (n : Nat) (R : yRec) : Nat → Nat → yTok → Nat → Except Int32 (fT × Nat × yTok × Nat)
  | 0, _, _, _ => .error 0
  | f + 1, ns, tk, c => xb (R ns 55 tk c) (fun q => if q.2.1.2.2.1 = 55 then (
      xb (cm x n q.2.1) (fun t2 => xb (yParts x n R f ns t2 q.2.2) (fun u => .ok (fC q.1 u.1, u.2.1 + 1, u.2.2.1, u.2.2.2))))
    else .ok (fC q.1 fZ, 1, q.2.1, q.2.2))
/-- the brackets of a call, and all behind them; tk: the opening one -/
def yCall (x : Nat → Int32) (n : Nat) (R : yRec) (G : gE) (q : Nat ⊕ Nat) (p ns : Nat) (tk : yTok) (c : Nat) : Except Int32 (fT × yTok × Nat) :=
  if kdOf G q = 2 then (
    xb (ne ns tk.2.1) (fun _ => xb (cm x n tk) (fun t2 =>
    xb (if t2.2.2.1 = 50 then .ok (fZ, 0, t2, c) else yParts x n R (n + 2) (ns + 1) t2 c) (fun u =>
    if nI u.2.1 = mnOf G q then xb (cm x n u.2.2.1) (fun t4 => .ok (fN 9 (ixOf q) u.2.1 u.1 fZ fZ, t4, u.2.2.2)) else er 6 p))))
  else er 5 p
/-- [ E ] behind an array's NAME -/
def yIndex (x : Nat → Int32) (n : Nat) (R : yRec) (G : gE) (q : Nat ⊕ Nat) (p ns : Nat) (tk : yTok) (c : Nat) : Except Int32 (fT × yTok × Nat) :=
  if kdOf G q = 1 then (
    xb (ne ns tk.2.1) (fun _ => xb (cm x n tk) (fun t2 => xb (R (ns + 1) 54 t2 c) (fun u => xb (cm x n u.2.1) (fun t4 => .ok (u.1, t4, u.2.2))))))
  else er 5 p
/-- ( E ) -/
def yBr (x : Nat → Int32) (n : Nat) (R : yRec) (ns : Nat) (tk : yTok) (c : Nat) : Except Int32 (fT × yTok × Nat) :=
  xb (need 49 tk) (fun _ => xb (ne ns tk.2.1) (fun _ => xb (cm x n tk) (fun t2 => xb (R (ns + 1) 50 t2 c) (fun u => xb (cm x n u.2.1) (fun t4 => .ok (u.1, t4, u.2.2))))))
def yNamed (x : Nat → Int32) (n tc : Nat) (R : yRec) (G : gE) (L : lE) (ns : Nat) (tk : yTok) (c : Nat) : Except Int32 (fT × yTok × Nat × Option Nat) :=
  match look G L tk.2.2.2 with
  | none => er 3 tk.2.1
  | some q => xb (fo tc c tk.2.1) (fun c1 => xb (cm x n tk) (fun t1 =>
      if t1.2.2.1 = 49 then xb (yCall x n R G q tk.2.1 ns t1 c1) (fun u => .ok (u.1, u.2.1, u.2.2, none))
      else if t1.2.2.1 = 53 then xb (yIndex x n R G q tk.2.1 ns t1 c1) (fun u => .ok (fN 4 (adOf G q).toInt (mnOf G q).toInt u.1 fZ fZ, u.2.1, u.2.2, none))
      else .ok (vrN G L q, t1, c1, if kdOf G q = 0 then none else some tk.2.1)))
/-- what a sign's part begins with; the last part of the answer: the place of a NAME that is no variable but stands like one -/
def yOper (x : Nat → Int32) (n tc : Nat) (R : yRec) (G : gE) (L : lE) (ns : Nat) (tk : yTok) (c : Nat) : Except Int32 (fT × yTok × Nat × Option Nat) :=
  if tk.2.2.1 = 41 then xb (fo tc c tk.2.1) (fun c1 => if (2147483647 : Int64) < tk.2.2.2 then er 11 tk.2.1 else xb (cm x n tk) (fun t1 => .ok (fN 1 tk.2.2.2.toInt32.toInt 0 fZ fZ fZ, t1, c1, none)))
  else if tk.2.2.1 = 40 then yNamed x n tc R G L ns tk c
  else if tk.2.2.1 = 48 then xb (fo tc c tk.2.1) (fun c1 => xb (cm x n tk) (fun t1 => xb (need 49 t1) (fun _ => xb (ne ns t1.2.1) (fun _ => xb (cm x n t1) (fun t2 => xb (need 50 t2) (fun _ => xb (cm x n t2) (fun t3 => .ok (fN 10 0 0 fZ fZ fZ, t3, c1, none)))))))) 
  else if tk.2.2.1 = 49 then xb (yBr x n R ns tk c) (fun u => .ok (u.1, u.2.1, u.2.2, none))
  else er 2 tk.2.1
def yEnds (cl k : Int32) : Bool := decide (k = cl ∨ (cl = 55 ∧ k = 50))
def yLoop (x : Nat → Int32) (n tc : Nat) (G : gE) (L : lE) (R : yRec) : Nat → yOps → Nat → Int32 → yTok → Nat → Except Int32 (fT × yTok × Nat)
  | 0, _, _, _, _, _ => .error 0
  | f + 1, ops, ns, cl, tk, c =>
    xb (yOpen x n tc 42 ops ns tk c) (fun o => xb (yOper x n tc R G L o.2.1 o.2.2.1 o.2.2.2) (fun u =>
      if yEnds cl u.2.1.2.2.1 = false ∧ rk u.2.1.2.2.1 = 0 then er 2 u.2.1.2.1
      else match u.2.2.2 with
      | some p => er 5 p
      | none => if rk u.2.1.2.2.1 = 0 then .ok ((jnA 0 (clO o.1 u.1).1 (clO o.1 u.1).2).2, u.2.1, u.2.2.1)
        else xb (fo tc u.2.2.1 u.2.1.2.1) (fun c3 => xb (cm x n u.2.1) (fun t3 =>
          yLoop x n tc G L R f ((u.2.1.2.2.1, (jnA (rk u.2.1.2.2.1) (clO o.1 u.1).1 (clO o.1 u.1).2).2) :: (jnA (rk u.2.1.2.2.1) (clO o.1 u.1).1 (clO o.1 u.1).2).1) ns cl t3 c3))))
/-- an E: d bounds how deep brackets lie within each other -/
def yE (x : Nat → Int32) (n tc : Nat) (G : gE) (L : lE) : Nat → yRec
  | 0, _, _, _, _ => .error 0
  | d + 1, ns, cl, tk, c => yLoop x n tc G L (yE x n tc G L d) (n + 2) [] ns cl tk c
/-- S: names L, places pl, the most places so far ms -/
abbrev ySrec : Type := Nat → lE → Nat → Nat → yTok → Nat → Except Int32 (fT × yTok × Nat × Nat)
def lAdd (L : lE) (w : Int64) (p : Int32) : lE := (fun i => if i = L.2.2 then w else L.1 i, fun i => if i = L.2.2 then p else L.2.1 i, L.2.2 + 1)
/-- the BLOCK that begins with name bf has w already -/
def dupL (L : lE) (bf : Nat) (w : Int64) : Bool := match lkN L.1 w L.2.2 with
  | some k => decide (bf ≤ k)
  | none => false
/-- LOCALS and S of a BLOCK up to its closing bracket; bf: the first name of the BLOCK -/
def yItems (x : Nat → Int32) (n tc : Nat) (G : gE) (R : ySrec) : Nat → Bool → Nat → Nat → lE → Nat → Nat → yTok → Nat → Except Int32 (fT × yTok × Nat × Nat)
  | 0, _, _, _, _, _, _, _, _ => .error 0
  | f + 1, dc, bf, ns, L, pl, ms, tk, c =>
    if tk.2.2.1 = 52 then .ok (fZ, tk, c, ms)
    else if dc = true ∧ tk.2.2.1 = 42 then (
      xb (cm x n tk) (fun t1 => xb (need 40 t1) (fun _ =>
      if dupL L bf t1.2.2.2 = true then er 4 t1.2.1
      else xb (cm x n t1) (fun t2 =>
      xb (if t2.2.2.1 = 57 then xb (cm x n t2) (fun t3 => yE x n tc G L 42 ns 56 t3 c) else .ok (fZ, t2, c)) (fun u =>
      xb (need 56 u.2.1) (fun _ => xb (cm x n u.2.1) (fun t5 =>
      xb (yItems x n tc G R f true bf ns (lAdd L t1.2.2.2 (nI pl)) (pl + 1) (max ms (pl + 1)) t5 u.2.2) (fun r =>
      .ok (fC (fN 21 pl 0 u.1 fZ fZ) r.1, r.2)))))))))
    else xb (R ns L pl ms tk c) (fun s => xb (yItems x n tc G R f false bf ns L pl s.2.2.2 s.2.1 s.2.2.1) (fun r => .ok (fC s.1 r.1, r.2)))
/-- a BLOCK from its opening bracket on, which is within ns others -/
def yBlock (x : Nat → Int32) (n tc : Nat) (G : gE) (R : ySrec) (ns : Nat) (L : lE) (pl ms : Nat) (tk : yTok) (c : Nat) : Except Int32 (fT × yTok × Nat × Nat) :=
  xb (cm x n tk) (fun t1 => xb (yItems x n tc G R (n + 2) true L.2.2 (ns + 1) L pl ms t1 c) (fun r => xb (cm x n r.2.1) (fun t3 => .ok (r.1, t3, r.2.2))))
def yBk (x : Nat → Int32) (n tc : Nat) (G : gE) (R : ySrec) (ns : Nat) (L : lE) (pl ms : Nat) (tk : yTok) (c : Nat) : Except Int32 (fT × yTok × Nat × Nat) :=
  xb (ne ns tk.2.1) (fun _ => xb (fo tc c tk.2.1) (fun c1 => xb (yBlock x n tc G R ns L pl ms tk c1) (fun r => .ok (fN 20 0 0 r.1 fZ fZ, r.2))))
def yIf (x : Nat → Int32) (n tc : Nat) (G : gE) (R : ySrec) (ns : Nat) (L : lE) (pl ms : Nat) (tk : yTok) (c : Nat) : Except Int32 (fT × yTok × Nat × Nat) :=
  xb (ne ns tk.2.1) (fun _ => xb (fo tc c tk.2.1) (fun c1 => xb (cm x n tk) (fun t1 => xb (yBr x n (yE x n tc G L 42) (ns + 1) t1 c1) (fun u =>
  xb (R (ns + 1) L pl ms u.2.1 u.2.2) (fun s =>
  if s.2.1.2.2.1 = 44 then xb (ne (ns + 1) s.2.1.2.1) (fun _ => xb (cm x n s.2.1) (fun t3 => xb (R (ns + 2) L pl s.2.2.2 t3 s.2.2.1) (fun r => .ok (fN 22 0 0 u.1 s.1 r.1, r.2))))
  else .ok (fN 22 0 0 u.1 s.1 fZ, s.2))))))
def yWh (x : Nat → Int32) (n tc : Nat) (G : gE) (R : ySrec) (ns : Nat) (L : lE) (pl ms : Nat) (tk : yTok) (c : Nat) : Except Int32 (fT × yTok × Nat × Nat) :=
  xb (ne ns tk.2.1) (fun _ => xb (fo tc c tk.2.1) (fun c1 => xb (cm x n tk) (fun t1 => xb (yBr x n (yE x n tc G L 42) (ns + 1) t1 c1) (fun u =>
  xb (R (ns + 1) L pl ms u.2.1 u.2.2) (fun s => .ok (fN 23 0 0 u.1 s.1 fZ, s.2))))))
def yRt (x : Nat → Int32) (n tc : Nat) (G : gE) (R : ySrec) (ns : Nat) (L : lE) (pl ms : Nat) (tk : yTok) (c : Nat) : Except Int32 (fT × yTok × Nat × Nat) :=
  xb (fo tc c tk.2.1) (fun c1 => xb (cm x n tk) (fun t1 => xb (yE x n tc G L 42 ns 56 t1 c1) (fun u => xb (cm x n u.2.1) (fun t3 => .ok (fN 24 0 0 u.1 fZ fZ, t3, u.2.2, ms)))))
def yPr (x : Nat → Int32) (n tc : Nat) (G : gE) (R : ySrec) (ns : Nat) (L : lE) (pl ms : Nat) (tk : yTok) (c : Nat) : Except Int32 (fT × yTok × Nat × Nat) :=
  xb (fo tc c tk.2.1) (fun c1 => xb (cm x n tk) (fun t1 => xb (yBr x n (yE x n tc G L 42) ns t1 c1) (fun u => xb (need 56 u.2.1) (fun _ => xb (cm x n u.2.1) (fun t3 => .ok (fN 25 0 0 u.1 fZ fZ, t3, u.2.2, ms))))))
def yEm (x : Nat → Int32) (n tc : Nat) (G : gE) (R : ySrec) (ns : Nat) (L : lE) (pl ms : Nat) (tk : yTok) (c : Nat) : Except Int32 (fT × yTok × Nat × Nat) :=
  xb (fo tc c tk.2.1) (fun c1 => xb (cm x n tk) (fun t1 => .ok (fN 30 0 0 fZ fZ fZ, t1, c1, ms)))
def asN (G : gE) (L : lE) (q : Nat ⊕ Nat) (t : fT) : fT := match q with
  | .inl j => fN 27 (L.2.1 j).toInt 0 t fZ fZ
  | .inr g => fN 26 (G.2.2.1 g).toInt 0 t fZ fZ
def yAs (x : Nat → Int32) (n tc : Nat) (G : gE) (q : Nat ⊕ Nat) (p ns : Nat) (L : lE) (ms : Nat) (t1 : yTok) (c1 : Nat) : Except Int32 (fT × yTok × Nat × Nat) :=
  if t1.2.2.1 = 57 then (
    if kdOf G q = 0 then xb (cm x n t1) (fun t2 => xb (yE x n tc G L 42 ns 56 t2 c1) (fun u => xb (cm x n u.2.1) (fun t4 => .ok (asN G L q u.1, t4, u.2.2, ms))))
    else er 5 p)
  else if t1.2.2.1 = 53 then xb (yIndex x n (yE x n tc G L 42) G q p ns t1 c1) (fun u => xb (need 57 u.2.1) (fun _ => xb (cm x n u.2.1) (fun t3 => xb (yE x n tc G L 42 ns 56 t3 u.2.2) (fun v => xb (cm x n v.2.1) (fun t5 =>
      .ok (fN 28 (adOf G q).toInt (mnOf G q).toInt u.1 v.1 fZ, t5, v.2.2, ms))))))
  else if t1.2.2.1 = 49 then xb (yCall x n (yE x n tc G L 42) G q p ns t1 c1) (fun u => xb (need 56 u.2.1) (fun _ => xb (cm x n u.2.1) (fun t3 => .ok (fN 29 0 0 u.1 fZ fZ, t3, u.2.2, ms))))
  else er 2 t1.2.1
def yNm (x : Nat → Int32) (n tc : Nat) (G : gE) (R : ySrec) (ns : Nat) (L : lE) (pl ms : Nat) (tk : yTok) (c : Nat) : Except Int32 (fT × yTok × Nat × Nat) :=
  match look G L tk.2.2.2 with
  | none => er 3 tk.2.1
  | some q => xb (fo tc c tk.2.1) (fun c1 => xb (cm x n tk) (fun t1 => yAs x n tc G q tk.2.1 ns L ms t1 c1))
def ySt (x : Nat → Int32) (n tc : Nat) (G : gE) (R : ySrec) (ns : Nat) (L : lE) (pl ms : Nat) (tk : yTok) (c : Nat) : Except Int32 (fT × yTok × Nat × Nat) :=
  if tk.2.2.1 = 51 then yBk x n tc G R ns L pl ms tk c
  else if tk.2.2.1 = 43 then yIf x n tc G R ns L pl ms tk c
  else if tk.2.2.1 = 45 then yWh x n tc G R ns L pl ms tk c
  else if tk.2.2.1 = 46 then yRt x n tc G R ns L pl ms tk c
  else if tk.2.2.1 = 47 then yPr x n tc G R ns L pl ms tk c
  else if tk.2.2.1 = 56 then yEm x n tc G R ns L pl ms tk c
  else if tk.2.2.1 = 40 then yNm x n tc G R ns L pl ms tk c
  else er 2 tk.2.1
def yS (x : Nat → Int32) (n tc : Nat) (G : gE) : Nat → ySrec
  | 0, _, _, _, _, _, _ => .error 0
  | d + 1, ns, L, pl, ms, tk, c => ySt x n tc G (yS x n tc G d) ns L pl ms tk c
/-- THE CODE of a tree at address p: whether there is a tree, and its cells; st: where a FUNCTION begins, np: how many parameters there are -/
abbrev yG : Type := Bool × (Nat → List Int32)
def gnN (st : Nat → Int32) (np : Int32) (k : Nat) (v w : Int) (A B C : yG) : yG := (true, fun p =>
  if k = 1 then [1, Int32.ofInt v]
  else if k = 2 then [2, Int32.ofInt v]
  else if k = 3 then [4, Int32.ofInt v]
  else if k = 4 then A.2 p ++ [6, Int32.ofInt v, Int32.ofInt w]
  else if k = 5 then A.2 p ++ [Int32.ofInt v]
  else if k = 6 then A.2 p ++ (B.2 (p + (A.2 p).length) ++ [Int32.ofInt v])
  else if k = 7 then (
    let q := p + (A.2 p).length
    let r := q + 2 + (B.2 (q + 2)).length
    A.2 p ++ ([31, nI (r + 6)] ++ (B.2 (q + 2) ++ [31, nI (r + 6), 1, 1, 30, nI (r + 8), 1, 0])))
  else if k = 8 then (
    let q := p + (A.2 p).length
    let r := q + 6 + (B.2 (q + 6)).length
    A.2 p ++ ([31, nI (q + 6), 1, 1, 30, nI (r + 8)] ++ (B.2 (q + 6) ++ [31, nI (r + 6), 1, 1, 30, nI (r + 8), 1, 0])))
  else if k = 9 then A.2 p ++ [32, st v.toNat, Int32.ofInt w]
  else if k = 10 then [35]
  else if k = 20 then A.2 p
  else if k = 21 then (if A.1 = true then A.2 p else [1, 0]) ++ [5, Int32.ofInt v]
  else if k = 22 then (
    let q := p + (A.2 p).length
    let r := q + 2 + (B.2 (q + 2)).length
    if C.1 = true then A.2 p ++ ([31, nI (r + 2)] ++ (B.2 (q + 2) ++ ([30, nI (r + 2 + (C.2 (r + 2)).length)] ++ C.2 (r + 2))))
    else A.2 p ++ ([31, nI r] ++ B.2 (q + 2)))
  else if k = 23 then (
    let q := p + (A.2 p).length
    let r := q + 2 + (B.2 (q + 2)).length
    A.2 p ++ ([31, nI (r + 2)] ++ (B.2 (q + 2) ++ [30, nI p])))
  else if k = 24 then A.2 p ++ [33, np]
  else if k = 25 then A.2 p ++ [34]
  else if k = 26 then A.2 p ++ [3, Int32.ofInt v]
  else if k = 27 then A.2 p ++ [5, Int32.ofInt v]
  else if k = 28 then A.2 p ++ (B.2 (p + (A.2 p).length) ++ [7, Int32.ofInt v, Int32.ofInt w])
  else if k = 29 then A.2 p ++ [36]
  else [])
def gnC (t r : yG) : yG := (true, fun p => t.2 p ++ r.2 (p + (t.2 p).length))
def gn (st : Nat → Int32) (np : Int32) : fT → yG := ff (false, fun _ => []) (gnN st np) gnC
/-- how many cells -/
def glN (k : Nat) (_ _ : Int) (A B C : Bool × Nat) : Bool × Nat := (true,
  if k = 1 ∨ k = 2 ∨ k = 3 then 2 else if k = 4 then A.2 + 3 else if k = 5 then A.2 + 1 else if k = 6 then A.2 + (B.2 + 1)
  else if k = 7 then A.2 + (2 + (B.2 + 8)) else if k = 8 then A.2 + (6 + (B.2 + 8)) else if k = 9 then A.2 + 3 else if k = 10 then 1
  else if k = 20 then A.2 else if k = 21 then (if A.1 = true then A.2 else 2) + 2
  else if k = 22 then (if C.1 = true then A.2 + (2 + (B.2 + (2 + C.2))) else A.2 + (2 + B.2))
  else if k = 23 then A.2 + (2 + (B.2 + 2)) else if k = 24 then A.2 + 2 else if k = 25 then A.2 + 1 else if k = 26 ∨ k = 27 then A.2 + 2
  else if k = 28 then A.2 + (B.2 + 3) else if k = 29 then A.2 + 1 else 0)
def gl : fT → Bool × Nat := ff (false, 0) glN (fun t r => (true, t.2 + r.2))
theorem gn_len (st : Nat → Int32) (np : Int32) : ∀ t, (gn st np t).1 = (gl t).1 ∧ ∀ p, ((gn st np t).2 p).length = (gl t).2 := by
  apply ff_ind
  · intro t h
    unfold gn gl
    rw [h, h]
    exact ⟨rfl, fun _ => rfl⟩
  · intro k v w A B C hA hB hC
    unfold gn gl at *
    rw [ff_N, ff_N]
    generalize ff (false, fun _ => []) (gnN st np) gnC A = a at *
    generalize ff (false, fun _ => []) (gnN st np) gnC B = b at *
    generalize ff (false, fun _ => []) (gnN st np) gnC C = c at *
    generalize ff (false, 0) glN (fun t r => (true, t.2 + r.2)) A = a' at *
    generalize ff (false, 0) glN (fun t r => (true, t.2 + r.2)) B = b' at *
    generalize ff (false, 0) glN (fun t r => (true, t.2 + r.2)) C = c' at *
    obtain ⟨a1, a2⟩ := hA
    obtain ⟨b1, b2⟩ := hB
    obtain ⟨c1, c2⟩ := hC
    refine ⟨rfl, fun p => ?_⟩
    unfold gnN glN
    simp only [← a1, ← c1]
    by_cases k1 : k = 1
    · subst k1; simp [a2, b2, c2]
    by_cases k2 : k = 2
    · subst k2; simp [a2, b2, c2]
    by_cases k3 : k = 3
    · subst k3; simp [a2, b2, c2]
    by_cases k4 : k = 4
    · subst k4; simp [a2, b2, c2]
    by_cases k5 : k = 5
    · subst k5; simp [a2, b2, c2]
    by_cases k6 : k = 6
    · subst k6; simp [a2, b2, c2]
    by_cases k7 : k = 7
    · subst k7; (simp [a2, b2, c2]; omega)
    by_cases k8 : k = 8
    · subst k8; (simp [a2, b2, c2]; omega)
    by_cases k9 : k = 9
    · subst k9; simp [a2, b2, c2]
    by_cases k10 : k = 10
    · subst k10; simp [a2, b2, c2]
    by_cases k20 : k = 20
    · subst k20; simp [a2, b2, c2]
    by_cases k21 : k = 21
    · subst k21; simp only [reduceIte, Nat.reduceEqDiff, or_false, false_or, or_self]; cases a.1 <;> simp [a2]
    by_cases k22 : k = 22
    · subst k22; simp only [reduceIte, Nat.reduceEqDiff, or_false, false_or, or_self]; cases c.1 <;> (simp [a2, b2, c2]; omega)
    by_cases k23 : k = 23
    · subst k23; (simp [a2, b2, c2]; omega)
    by_cases k24 : k = 24
    · subst k24; simp [a2, b2, c2]
    by_cases k25 : k = 25
    · subst k25; simp [a2, b2, c2]
    by_cases k26 : k = 26
    · subst k26; simp [a2, b2, c2]
    by_cases k27 : k = 27
    · subst k27; simp [a2, b2, c2]
    by_cases k28 : k = 28
    · subst k28; simp [a2, b2, c2]
    by_cases k29 : k = 29
    · subst k29; simp [a2, b2, c2]
    simp only [k1, k2, k3, k4, k5, k6, k7, k8, k9, k10, k20, k21, k22, k23, k24, k25, k26, k27, k28, k29, or_self, if_false, List.length_nil]
  · intro t r ht hr
    unfold gn gl at *
    rw [ff_C, ff_C]
    refine ⟨rfl, fun p => ?_⟩
    simp only [gnC, List.length_append, ht.2, hr.2]
/-! PROGRAM -/
def gAdd (G : gE) (w : Int64) (s a m : Int32) : gE := (fun i => if i = G.2.2.2.2 then w else G.1 i, fun i => if i = G.2.2.2.2 then s else G.2.1 i, fun i => if i = G.2.2.2.2 then a else G.2.2.1 i, fun i => if i = G.2.2.2.2 then m else G.2.2.2.1 i, G.2.2.2.2 + 1)
/-- the parameters, tk: behind the opening bracket; up to the closing one -/
def yPars (x : Nat → Int32) (n : Nat) : Nat → lE → yTok → Except Int32 (lE × yTok)
  | 0, _, _ => .error 0
  | f + 1, L, tk => xb (need 42 tk) (fun _ => xb (cm x n tk) (fun t1 => xb (need 40 t1) (fun _ =>
      if (lkN L.1 t1.2.2.2 L.2.2).isSome = true then er 4 t1.2.1 else if 8 ≤ L.2.2 then er 6 t1.2.1
      else xb (cm x n t1) (fun t2 => if t2.2.2.1 = 55 then xb (cm x n t2) (fun t3 => yPars x n f (lAdd L t1.2.2.2 0) t3) else .ok (lAdd L t1.2.2.2 0, t2)))))
def lPlace (L : lE) : lE := (L.1, fun i => nI i - 2 - nI L.2.2, L.2.2)
/-- the program so far: names, globals, cells of code, each FUNCTION's BLOCK, its most LOCALS -/
abbrev yP : Type := gE × Nat × Nat × (Nat → fT) × (Nat → Nat)
def yFun (x : Nat → Int32) (n tc : Nat) (P : yP) (w : Int64) (p : Nat) (tk : yTok) (c : Nat) : Except Int32 (yP × yTok × Nat) :=
  xb (fo tc c p) (fun c1 => xb (cm x n tk) (fun t3 =>
  xb (if t3.2.2.1 = 50 then .ok ((fun _ => 0, fun _ => 0, 0), t3) else yPars x n (n + 2) (fun _ => 0, fun _ => 0, 0) t3) (fun u =>
  xb (need 50 u.2) (fun _ => xb (cm x n u.2) (fun t5 => xb (need 51 t5) (fun _ =>
  xb (yBlock x n tc (gAdd P.1 w 2 (nI P.2.2.1) (nI u.1.2.2)) (yS x n tc (gAdd P.1 w 2 (nI P.2.2.1) (nI u.1.2.2)) 42) 0 (lPlace u.1) 0 0 t5 c1) (fun r =>
  .ok ((gAdd P.1 w 2 (nI P.2.2.1) (nI u.1.2.2), P.2.1, P.2.2.1 + (6 + (gl r.1).2), (fun i => if i = P.1.2.2.2.2 then fN 20 0 0 r.1 fZ fZ else P.2.2.2.1 i), (fun i => if i = P.1.2.2.2.2 then r.2.2.2 else P.2.2.2.2 i)), r.2.1, r.2.2.1))))))))
/-- behind an array's opening bracket: its size, the token behind its closing one -/
def ySize (x : Nat → Int32) (n : Nat) (tk : yTok) : Except Int32 (Int32 × yTok) :=
  xb (cm x n tk) (fun t3 => xb (need 41 t3) (fun _ => if t3.2.2.2 < 1 ∨ 1000 < t3.2.2.2 then er 11 t3.2.1 else
  xb (cm x n t3) (fun t4 => xb (need 54 t4) (fun _ => xb (cm x n t4) (fun t5 => .ok (t3.2.2.2.toInt32, t5))))))
def yDecl (x : Nat → Int32) (n tc : Nat) (P : yP) (tk : yTok) (c : Nat) : Except Int32 (yP × yTok × Nat) :=
  xb (need 42 tk) (fun _ => xb (cm x n tk) (fun t1 => xb (need 40 t1) (fun _ =>
  if (lkN P.1.1 t1.2.2.2 P.1.2.2.2.2).isSome = true then er 4 t1.2.1 else xb (cm x n t1) (fun t2 =>
  if t2.2.2.1 = 49 then yFun x n tc P t1.2.2.2 t1.2.1 t2 c
  else xb (if t2.2.2.1 = 53 then ySize x n t2 else .ok (1, t2)) (fun u => xb (need 56 u.2) (fun _ => xb (cm x n u.2) (fun t6 =>
  .ok ((gAdd P.1 t1.2.2.2 (if t2.2.2.1 = 53 then 1 else 0) (nI P.2.1) u.1, P.2.1 + u.1.toNatClampNeg, P.2.2), t6, c))))))))
def yDecls (x : Nat → Int32) (n tc : Nat) : Nat → yP → yTok → Nat → Except Int32 yP
  | 0, _, _, _ => .error 0
  | f + 1, P, tk, c => if tk.2.2.1 = 58 then .ok P else xb (yDecl x n tc P tk c) (fun u => yDecls x n tc f u.1 u.2.1 u.2.2)
def yP0 : yP := ((fun _ => 0, fun _ => 0, fun _ => 0, fun _ => 0, 0), 0, 4, fun _ => fZ, fun _ => 0)
def yMain : Int64 := 1835100526
/-- there is a FUNCTION main without parameters -/
def yHas (P : yP) : Bool := match lkN P.1.1 yMain P.1.2.2.2.2 with
  | some m => decide (P.1.2.1 m = 2 ∧ P.1.2.2.2.1 m = 0)
  | none => false
/-- all of the text: cc cells of code -/
def yRead (x : Nat → Int32) (n tc : Nat) : Except Int32 yP :=
  xb (cm x n (0, 0, 0, 0)) (fun t0 => xb (yDecls x n tc (n + 2) yP0 t0 0) (fun P =>
  if yHas P = true then .ok P else er 7 n))
def yAll (x : Nat → Int32) (n tc cc : Nat) : Except Int32 yP := xb (yRead x n tc) (fun P => if P.2.2.1 ≤ cc then .ok P else er 10 n)
