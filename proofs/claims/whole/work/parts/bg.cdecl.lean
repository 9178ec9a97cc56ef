/-! THE CLASS: a declaration's name -/
theorem findG {ln : Nat → Nat} {N M q cc : Nat} {G : gE} {fnd : Nat → Int32} {w : Int64} {σ : zSt} (hL : LN ln q cc) (hN : 5000 ≤ N) (hG : G.2.2.2.2 ≤ ln 15) (h : NV G lNo fnd σ) : ∃ r, fX4_find ln N M w 0 σ = some (r, σ) ∧ (r < 0 ↔ (lkN G.1 w G.2.2.2.2).isSome = false) := by
  have h15 := hL.2.1
  rw [findL (L := lNo) hL hN (show G.2.2.2.2 + 0 ≤ ln 15 from hG) h]
  refine ⟨_, rfl, ?_⟩
  have hlk : look G lNo w = (match lkN G.1 w G.2.2.2.2 with | some g => some (.inr g) | none => none) := rfl
  rw [hlk]
  cases hg : lkN G.1 w G.2.2.2.2 with
  | some g =>
    have := (lkN_lt hg).1
    refine ⟨fun e => ?_, fun e => by cases e⟩
    have e2 : nI g < 0 := e
    rw [Int32.lt_iff_toInt_lt, nI_toInt (by omega)] at e2
    have z0 : (0 : Int32).toInt = 0 := rfl
    omega
  | none => exact ⟨fun _ => rfl, fun _ => (by decide : (-1 : Int32) < 0)⟩
def yTo (x : Nat → Int32) (n : Nat) (G : gE) (t1 : yTok) : Except Int32 yTok := xb (need 40 t1) (fun _ => if (lkN G.1 t1.2.2.2 G.2.2.2.2).isSome = true then er 4 t1.2.1 else cm x n t1)
theorem yDecl_s {x : Nat → Int32} {n tc : Nat} {P : yP} {tk : yTok} {c : Nat} : yDecl x n tc P tk c = xb (need 42 tk) (fun _ => xb (cm x n tk) (fun t1 => xb (yTo x n P.1 t1) (fun t2 => if t2.2.2.1 = 49 then yFun x n tc P t1.2.2.2 t1.2.1 t2 c else xb (yGl x n t2) (fun u => .ok ((gAdd P.1 t1.2.2.2 (if t2.2.2.1 = 53 then 1 else 0) (nI P.2.1) u.1, P.2.1 + u.1.toNatClampNeg, P.2.2), u.2, c))))) := by
  unfold yDecl yTo yGl
  cases need 42 tk with
  | error e => rfl
  | ok y =>
    rw [xb_k, xb_k]
    cases cm x n tk with
    | error e => rfl
    | ok t1 =>
      rw [xb_k, xb_k]
      cases need 40 t1 with
      | error e => rfl
      | ok y =>
        rw [xb_k, xb_k]
        by_cases c1 : (lkN P.1.1 t1.2.2.2 P.1.2.2.2.2).isSome = true
        · rw [if_pos c1, if_pos c1]; rfl
        · rw [if_neg c1, if_neg c1]
          cases cm x n t1 with
          | error e => rfl
          | ok t2 =>
            rw [xb_k, xb_k]
            by_cases c2 : t2.2.2.1 = 49
            · rw [if_pos c2, if_pos c2]
            · rw [if_neg c2, if_neg c2, xb_as]
              congr 1
              funext u
              rw [xb_as]
              congr 1
              funext y
              rw [xb_as]
              rfl
