/-! what the Statement gives of static arrays -/
def zK_KEYWORDS : Nat → Int64 := fun j => ([6909556, 26982, 1701606245, 512852847717, 125780071117422, 482955849332, 1919246692] : List Int64).getD j 0
def zK_RANKS : Nat → Int32 := fun j => ([0, 0, 0, 0, 0, 0, 0, 0, 2, 1, 3, 4, 5, 6, 6, 7, 7, 7, 7, 8, 8, 9, 9, 10, 0, 0, 0, 10, 10] : List Int32).getD j 0
def zStat (A : Nat → Prop) (ts : Nat → Nat) (U : State) : Prop := (va_Z "TinyC" "KEYWORDS" "[J" (.ref (ts 0)) A U U.heap ∧ va_T .long (ts 0) 7 (fun j => .long (zK_KEYWORDS j)) A U U.heap) ∧ (va_Z "TinyC" "RANKS" "[I" (.ref (ts 1)) A U U.heap ∧ va_T .int (ts 1) 29 (fun j => .int (zK_RANKS j)) A U U.heap) ∧ True
theorem zStat_go {A : Nat → Prop} {ts : Nat → Nat} {s U : State} (h : zStat A ts s) (hW : s.vm.Alike U.vm) (hk : ∀ a : Nat, a < s.heap.size → ¬ A a → U.heap[a]? = s.heap[a]?) : zStat A ts U := by
  obtain ⟨⟨z0, t0⟩, ⟨z1, t1⟩, -⟩ := h
  exact ⟨⟨(z0.kept hk).moved hW, (t0.kept hk).moved hW⟩, ⟨(z1.kept hk).moved hW, (t1.kept hk).moved hW⟩, trivial⟩
