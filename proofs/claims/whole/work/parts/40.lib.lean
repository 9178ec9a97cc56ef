/-! PURE: getters over setters -/
theorem zI_I (σ : zSt) (o k i j : Nat) (v : Int32) : zI (zsI σ o k v) i j = if i = o ∧ j = k then v else zI σ i j := rfl
theorem zI_L (σ : zSt) (o k i j : Nat) (v : Int64) : zI (zsL σ o k v) i j = zI σ i j := rfl
theorem zI_R (σ : zSt) (o k i j v : Nat) : zI (zsR σ o k v) i j = zI σ i j := rfl
theorem zI_A (σ : zSt) (o k i j : Nat) (v : Int32) : zI (zsA σ o k v) i j = zI σ i j := rfl
theorem zI_B (σ : zSt) (o k i j : Nat) (v : Int64) : zI (zsB σ o k v) i j = zI σ i j := rfl
theorem zL_I (σ : zSt) (o k i j : Nat) (v : Int32) : zL (zsI σ o k v) i j = zL σ i j := rfl
theorem zL_L (σ : zSt) (o k i j : Nat) (v : Int64) : zL (zsL σ o k v) i j = if i = o ∧ j = k then v else zL σ i j := rfl
theorem zL_R (σ : zSt) (o k i j v : Nat) : zL (zsR σ o k v) i j = zL σ i j := rfl
theorem zL_A (σ : zSt) (o k i j : Nat) (v : Int32) : zL (zsA σ o k v) i j = zL σ i j := rfl
theorem zL_B (σ : zSt) (o k i j : Nat) (v : Int64) : zL (zsB σ o k v) i j = zL σ i j := rfl
theorem zR_I (σ : zSt) (o k i j : Nat) (v : Int32) : zR (zsI σ o k v) i j = zR σ i j := rfl
theorem zR_L (σ : zSt) (o k i j : Nat) (v : Int64) : zR (zsL σ o k v) i j = zR σ i j := rfl
theorem zR_R (σ : zSt) (o k i j v : Nat) : zR (zsR σ o k v) i j = if i = o ∧ j = k then v else zR σ i j := rfl
theorem zR_A (σ : zSt) (o k i j : Nat) (v : Int32) : zR (zsA σ o k v) i j = zR σ i j := rfl
theorem zR_B (σ : zSt) (o k i j : Nat) (v : Int64) : zR (zsB σ o k v) i j = zR σ i j := rfl
theorem zA_I (σ : zSt) (o k i j : Nat) (v : Int32) : zA (zsI σ o k v) i j = zA σ i j := rfl
theorem zA_L (σ : zSt) (o k i j : Nat) (v : Int64) : zA (zsL σ o k v) i j = zA σ i j := rfl
theorem zA_R (σ : zSt) (o k i j v : Nat) : zA (zsR σ o k v) i j = zA σ i j := rfl
theorem zA_A (σ : zSt) (o k i j : Nat) (v : Int32) : zA (zsA σ o k v) i j = if i = o ∧ j = k then v else zA σ i j := rfl
theorem zA_B (σ : zSt) (o k i j : Nat) (v : Int64) : zA (zsB σ o k v) i j = zA σ i j := rfl
theorem zB_I (σ : zSt) (o k i j : Nat) (v : Int32) : zB (zsI σ o k v) i j = zB σ i j := rfl
theorem zB_L (σ : zSt) (o k i j : Nat) (v : Int64) : zB (zsL σ o k v) i j = zB σ i j := rfl
theorem zB_R (σ : zSt) (o k i j v : Nat) : zB (zsR σ o k v) i j = zB σ i j := rfl
theorem zB_A (σ : zSt) (o k i j : Nat) (v : Int32) : zB (zsA σ o k v) i j = zB σ i j := rfl
theorem zB_B (σ : zSt) (o k i j : Nat) (v : Int64) : zB (zsB σ o k v) i j = if i = o ∧ j = k then v else zB σ i j := rfl
theorem obd_s {α β : Type} (r : α) (u : zSt) (f : α → zSt → Option β) : obd (some (r, u)) f = f r u := rfl
theorem bnd_e {α β : Type} (a : α) (f : α → β) : bnd a f = f a := rfl
/-- an index in range: the check of an array access goes through -/
theorem ix_ok {n k : Nat} (h : n < k) (hk : k < 2 ^ 31) : ¬ (nI n < 0 ∨ k ≤ (nI n).toNatClampNeg) := nI_in h hk
theorem Option.pair {α β : Type} {x y : α × β} (h1 : x.1 = y.1) (h2 : x.2 = y.2) : x = y := Prod.ext h1 h2
