/-! THE REFERENCE'S READER: a declaration behind its name -/
def yDT (x : Nat → Int32) (n tc : Nat) (P : yP) (w : Int64) (p : Nat) (t2 : yTok) (c : Nat) : Except Int32 (yP × yTok × Nat) := if t2.2.2.1 = 49 then yFun x n tc P w p t2 c else xb (if t2.2.2.1 = 53 then ySize x n t2 else .ok (1, t2)) (fun u => yDE x n P w (if t2.2.2.1 = 53 then 1 else 0) u.1 u.2 c)
theorem declT {x : Nat → Int32} {n tc : Nat} {P : yP} {w : Int64} {p N : Nat} {tk : yTok} {c nd : Nat} {τ : zSt} (hn : n ≤ 512) (hN : 5000 ≤ N) (hG : P.1.2.2.2.2 < 1400) (hs : ∀ s : Int32, 1 ≤ s.toInt → s.toInt ≤ 1000 → nI P.2.1 + s = nI (P.2.1 + s.toNatClampNeg)) (hP : PV x n tc P tk c nd τ) (hB : BD n tc tk c 0 nd 0) (hp : p ≤ 512) (h0 : yDT x n tc P w p tk c ≠ .error 0) :
    wp (obd (fX12_isSign N 40 τ) (fun r11 σ12 => if r11 = 0 then bnd (1 : Int32) (fun x13 => obd (fX12_isSign N 91 σ12) (fun r14 σ15 => if r14 = 0 then fX12_declaration_b113 N w x13 r14 σ15 else obd (fX12_opens N 91 σ15) (fun _ σ27 => obd (fX12_arraySize N σ27) (fun r28 σ29 => obd (fX12_closes N 93 σ29) (fun _ σ31 => fX12_declaration_b113 N w r28 r14 σ31))))) else obd (fX12_four N (nI p) σ12) (fun _ σ33 => obd (fX12_tellFunction N w σ33) (fun _ σ35 => some ((), σ35))))) (fun _ z => DQ x n tc tk τ (yDT x n tc P w p tk c) z) := by
  have hK := rT_K hP.2.2.1
  unfold yDT at h0 ⊢
  by_cases h49 : tk.2.2.1 = 49
  · rw [if_pos h49] at h0
    rw [if_pos h49, isSignT ((sB49 hP.2.2.2.1 hK).mpr h49), obd_s, if_neg (by decide)]
    exact dfR hn hN hG hP hB hp h49 h0
  · rw [if_neg h49, isSignF (sF49 hP.2.2.2.1 hK h49), obd_s, if_pos rfl, bnd_e]
    by_cases h53 : tk.2.2.1 = 53
    · rw [if_pos h53, if_pos h53, isSignT ((sB53 hP.2.2.2.1 hK).mpr h53), obd_s, if_neg (by decide)]
      exact darR (f := 1) hn hN hG hs hP hB h53
    · rw [if_neg h53, if_neg h53, xb_k, isSignF (sF53 hP.2.2.2.1 hK h53), obd_s, if_pos rfl]
      exact b113R (f := 0) (s := 1) hn hN hG (hs 1 (by decide) (by decide)) hP hB
