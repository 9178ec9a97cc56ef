def fX11_clip (ln : Nat → Nat) (N M : Nat) (a0_ : Int32) (σ : zSt) : Option (Int32 × zSt) :=
  some (if (0 : Int32) < (if (4096 : Int32) < a0_ then (4096 : Int32) else a0_) then (if (4096 : Int32) < a0_ then (4096 : Int32) else a0_) else (0 : Int32), σ)
def fJ7_fill_53178_b5 (ln : Nat → Nat) (N M : Nat) (a0_ : Nat)  : Nat → Int32 → Int32 → Int32 → zSt → Option (Unit × zSt)
  | 0, _, _, _, _ => none
  | n + 1, x1_, x2_, x3_, σ =>
    if x3_ ≤ x2_ then (
      some ((), σ))
    else (
      if x2_ < 0 ∨ (ln a0_) ≤ x2_.toNatClampNeg then none else (
      bnd (zsA σ a0_ x2_.toNatClampNeg x1_) (fun σ3 =>
      bnd (x2_ + (1 : Int32)) (fun x4 =>
      fJ7_fill_53178_b5 ln N M a0_  n x1_ x4 x3_ σ3))))
def fJ7_fill_53178 (ln : Nat → Nat) (N M : Nat) (a0_ : Nat) (a1_ : Int32) (σ : zSt) : Option (Unit × zSt) :=
  bnd (0 : Int32) (fun x1 =>
  bnd (nI (ln a0_)) (fun x2 =>
  fJ7_fill_53178_b5 ln N M a0_  N a1_ x1 x2 σ))
def fX3_begin (ln : Nat → Nat) (N M : Nat) (a1_ : Nat) (σ : zSt) : Option (Unit × zSt) :=
  bnd (zsR σ 7 2 ((a1_ + 4) + 1)) (fun σ1 =>
  obd (fJ7_fill_53178 ln N M 26 (0 : Int32) σ1) (fun _ σ3 =>
  bnd (zsI σ3 7 3 (0 : Int32)) (fun σ4 =>
  bnd (zsI σ4 7 4 (zI σ4 a1_ 2)) (fun σ5 =>
  bnd (zsI σ5 7 5 (0 : Int32)) (fun σ6 =>
  bnd (zsI σ6 7 6 (0 : Int32)) (fun σ7 =>
  bnd (zsI σ7 7 7 (0 : Int32)) (fun σ8 =>
  some ((), σ8))))))))
def fX10_pushItem (ln : Nat → Nat) (N M : Nat) (a1_ : Int32) (a2_ : Int32) (σ : zSt) : Option (Unit × zSt) :=
  if (zI σ 8 11) < 0 then (
    some ((), σ))
  else (
    if (nI (ln 28)) ≤ (zI σ 8 11) then (
      some ((), σ))
    else (
      if (nI (ln 29)) ≤ (zI σ 8 11) then (
        some ((), σ))
      else (
        if (zI σ 8 11) < 0 ∨ (ln 28) ≤ (zI σ 8 11).toNatClampNeg then none else (
        bnd (zsA σ 28 (zI σ 8 11).toNatClampNeg a1_) (fun σ1 =>
        if (zI σ1 8 11) < 0 ∨ (ln 29) ≤ (zI σ1 8 11).toNatClampNeg then none else (
        bnd (zsA σ1 29 (zI σ1 8 11).toNatClampNeg a2_) (fun σ2 =>
        bnd (zsI σ2 8 11 ((zI σ2 8 11) + (1 : Int32))) (fun σ3 =>
        some ((), σ3)))))))))
def fX10_begin (ln : Nat → Nat) (N M : Nat) (a1_ : Nat) (σ : zSt) : Option (Unit × zSt) :=
  bnd (zsR σ 8 8 ((a1_ + 2) + 1)) (fun σ1 =>
  bnd (zsI σ1 8 9 (zI σ1 a1_ 2)) (fun σ2 =>
  obd (fJ7_fill_53178 ln N M 30 (0 : Int32) σ2) (fun _ σ4 =>
  bnd (zsI σ4 8 10 (0 : Int32)) (fun σ5 =>
  bnd (zsI σ5 8 11 (0 : Int32)) (fun σ6 =>
  bnd (zsI σ6 8 12 (0 : Int32)) (fun σ7 =>
  bnd (zsI σ7 8 13 (0 : Int32)) (fun σ8 =>
  bnd (zsI σ8 8 14 (0 : Int32)) (fun σ9 =>
  bnd (zsI σ9 8 15 (0 : Int32)) (fun σ10 =>
  obd (fX10_pushItem ln N M (3 : Int32) (zI σ10 a1_ 3) σ10) (fun _ σ12 =>
  some ((), σ12)))))))))))
def fX7_put (ln : Nat → Nat) (N M : Nat) (a1_ : Int32) (σ : zSt) : Option (Int32 × zSt) :=
  if (zI σ 1 1) < (nI (ln 15)) then (
    if (zI σ 1 1) < 0 ∨ (ln 15) ≤ (zI σ 1 1).toNatClampNeg then none else (
    bnd (zsA σ 15 (zI σ 1 1).toNatClampNeg a1_) (fun σ1 =>
    bnd (zsI σ1 1 1 ((zI σ1 1 1) + (1 : Int32))) (fun σ2 =>
    some ((1 : Int32), σ2)))))
  else (
    some ((0 : Int32), σ))
def fX11_feed (ln : Nat → Nat) (N M : Nat) (a1_ : Int32) (σ : zSt) : Option (Int32 × zSt) :=
  obd (fX7_put ln N M a1_ σ) (fun r1 σ2 =>
  if r1 = 0 then (
    some ((1 : Int32), σ2))
  else (
    some ((0 : Int32), σ2)))
def fX5_clear (ln : Nat → Nat) (N M : Nat) (q_ : Nat)  (σ : zSt) : Option (Unit × zSt) :=
  bnd (zsI σ (q_ + 2) 6 (0 : Int32)) (fun σ1 =>
  bnd (zsI σ1 (q_ + 4) 1 (0 : Int32)) (fun σ2 =>
  bnd (zsI σ2 q_ 2 (0 : Int32)) (fun σ3 =>
  bnd (zsI σ3 q_ 3 (-1 : Int32)) (fun σ4 =>
  bnd (zsI σ4 q_ 4 (0 : Int32)) (fun σ5 =>
  some ((), σ5))))))
def fX4_cutTo (ln : Nat → Nat) (N M : Nat) (a1_ : Int32) (σ : zSt) : Option (Unit × zSt) :=
  bnd (zsI σ 4 5 (if (0 : Int32) < (if a1_ < (zI σ 4 5) then a1_ else (zI σ 4 5)) then (if a1_ < (zI σ 4 5) then a1_ else (zI σ 4 5)) else (0 : Int32))) (fun σ1 =>
  some ((), σ1))
def fX1_begin (ln : Nat → Nat) (N M : Nat)  (σ : zSt) : Option (Unit × zSt) :=
  obd (fX4_cutTo ln N M (0 : Int32) σ) (fun _ σ2 =>
  bnd (zsI σ2 3 3 (zI σ2 3 2)) (fun σ3 =>
  bnd (zsI σ3 3 4 (0 : Int32)) (fun σ4 =>
  bnd (zsI σ4 3 5 (0 : Int32)) (fun σ5 =>
  some ((), σ5)))))
def fX2_begin (ln : Nat → Nat) (N M : Nat) (a1_ : Nat) (σ : zSt) : Option (Unit × zSt) :=
  bnd (zsR σ 5 8 ((a1_ + 2) + 1)) (fun σ1 =>
  bnd (zsR σ1 5 9 ((a1_ + 4) + 1)) (fun σ2 =>
  bnd (zsI σ2 5 6 (0 : Int32)) (fun σ3 =>
  bnd (zsI σ3 5 7 (-1 : Int32)) (fun σ4 =>
  some ((), σ4)))))
def fX7_skipBlanks_b39 (ln : Nat → Nat) (N M : Nat) (k0 : zSt → Option (Unit × zSt))  (σ : zSt) : Option (Unit × zSt) :=
  bnd (zsI σ 1 2 ((zI σ 1 2) + (1 : Int32))) (fun σ1 =>
  k0  σ1)
def fX7_skipBlanks_b0 (ln : Nat → Nat) (N M : Nat)  : Nat → zSt → Option (Unit × zSt)
  | 0, _ => none
  | n + 1, σ =>
    if (zI σ 1 1) ≤ (zI σ 1 2) then (
      some ((), σ))
    else (
      if (zI σ 1 2) < 0 ∨ (ln 15) ≤ (zI σ 1 2).toNatClampNeg then none else (
      if (zA σ 15 (zI σ 1 2).toNatClampNeg) = (32 : Int32) then (
        fX7_skipBlanks_b39 ln N M (fX7_skipBlanks_b0 ln N M  n)  σ)
      else (
        if (zI σ 1 2) < 0 ∨ (ln 15) ≤ (zI σ 1 2).toNatClampNeg then none else (
        if (zA σ 15 (zI σ 1 2).toNatClampNeg) = (10 : Int32) then (
          fX7_skipBlanks_b39 ln N M (fX7_skipBlanks_b0 ln N M  n)  σ)
        else (
          some ((), σ))))))
def fX7_skipBlanks (ln : Nat → Nat) (N M : Nat)  (σ : zSt) : Option (Unit × zSt) :=
  fX7_skipBlanks_b0 ln N M  N  σ
def fX7_isDigit (ln : Nat → Nat) (N M : Nat) (a0_ : Int32) (σ : zSt) : Option (Int32 × zSt) :=
  if a0_ < (48 : Int32) then (
    some ((0 : Int32), σ))
  else (
    if (57 : Int32) < a0_ then (
      some ((0 : Int32), σ))
    else (
      some ((1 : Int32), σ)))
def fX7_comeNumber_b97 (ln : Nat → Nat) (N M : Nat)   (σ : zSt) : Option (Int32 × zSt) :=
  if ((zI σ 1 2) - (zI σ 1 4)) ≤ (10 : Int32) then (
    some ((41 : Int32), σ))
  else (
    some ((-1 : Int32), σ))
def fX7_comeNumber_b84 (ln : Nat → Nat) (N M : Nat) (k5 : zSt → Option (Int32 × zSt))  (σ : zSt) : Option (Int32 × zSt) :=
  bnd (zsI σ 1 2 ((zI σ 1 2) + (1 : Int32))) (fun σ2 =>
  k5  σ2)
def fX7_comeNumber_b5 (ln : Nat → Nat) (N M : Nat)  : Nat → zSt → Option (Int32 × zSt)
  | 0, _ => none
  | n + 1, σ =>
    if (zI σ 1 1) ≤ (zI σ 1 2) then (
      fX7_comeNumber_b97 ln N M   σ)
    else (
      if (zI σ 1 2) < 0 ∨ (ln 15) ≤ (zI σ 1 2).toNatClampNeg then none else (
      if (zA σ 15 (zI σ 1 2).toNatClampNeg) < (48 : Int32) then (
        fX7_comeNumber_b97 ln N M   σ)
      else (
        if (zI σ 1 2) < 0 ∨ (ln 15) ≤ (zI σ 1 2).toNatClampNeg then none else (
        if (57 : Int32) < (zA σ 15 (zI σ 1 2).toNatClampNeg) then (
          fX7_comeNumber_b97 ln N M   σ)
        else (
          if (10 : Int32) ≤ ((zI σ 1 2) - (zI σ 1 4)) then (
            fX7_comeNumber_b84 ln N M (fX7_comeNumber_b5 ln N M  n)  σ)
          else (
            if (zI σ 1 2) < 0 ∨ (ln 15) ≤ (zI σ 1 2).toNatClampNeg then none else (
            bnd (zsL σ 1 6 (((zL σ 1 6) * (10 : Int64)) + (((zA σ 15 (zI σ 1 2).toNatClampNeg) - (48 : Int32)).toInt64))) (fun σ3 =>
            fX7_comeNumber_b84 ln N M (fX7_comeNumber_b5 ln N M  n)  σ3))))))))
def fX7_comeNumber (ln : Nat → Nat) (N M : Nat)  (σ : zSt) : Option (Int32 × zSt) :=
  bnd (zsL σ 1 6 (0 : Int64)) (fun σ1 =>
  fX7_comeNumber_b5 ln N M  N  σ1)
def fX7_isLetter_b30 (ln : Nat → Nat) (N M : Nat)   (σ : zSt) : Option (Int32 × zSt) :=
  some ((1 : Int32), σ)
def fX7_isLetter_b24 (ln : Nat → Nat) (N M : Nat)  (x0_ : Int32) (σ : zSt) : Option (Int32 × zSt) :=
  if x0_ = (95 : Int32) then (
    fX7_isLetter_b30 ln N M   σ)
  else (
    some ((0 : Int32), σ))
def fX7_isLetter_b12 (ln : Nat → Nat) (N M : Nat)  (x0_ : Int32) (σ : zSt) : Option (Int32 × zSt) :=
  if x0_ < (65 : Int32) then (
    fX7_isLetter_b24 ln N M  x0_ σ)
  else (
    if x0_ ≤ (90 : Int32) then (
      fX7_isLetter_b30 ln N M   σ)
    else (
      fX7_isLetter_b24 ln N M  x0_ σ))
def fX7_isLetter (ln : Nat → Nat) (N M : Nat) (a0_ : Int32) (σ : zSt) : Option (Int32 × zSt) :=
  if a0_ < (97 : Int32) then (
    fX7_isLetter_b12 ln N M  a0_ σ)
  else (
    if a0_ ≤ (122 : Int32) then (
      fX7_isLetter_b30 ln N M   σ)
    else (
      fX7_isLetter_b12 ln N M  a0_ σ))
def fX7_comeWord_b119 (ln : Nat → Nat) (N M : Nat)  : Nat → Int32 → zSt → Option (Int32 × zSt)
  | 0, _, _ => none
  | n + 1, x1_, σ =>
    if (7 : Int32) ≤ x1_ then (
      some ((40 : Int32), σ))
    else (
      if x1_ < 0 ∨ 7 ≤ x1_.toNatClampNeg then none else (
      if (lg_cmp (zK_KEYWORDS x1_.toNatClampNeg) (zL σ 1 5)) = 0 then (
        some ((42 : Int32) + x1_, σ))
      else (
        bnd (x1_ + (1 : Int32)) (fun x3 =>
        fX7_comeWord_b119 ln N M  n x3 σ))))
def fX7_comeWord_b101 (ln : Nat → Nat) (N M : Nat)   (σ : zSt) : Option (Int32 × zSt) :=
  if ((zI σ 1 2) - (zI σ 1 4)) ≤ (8 : Int32) then (
    bnd (0 : Int32) (fun x2 =>
    fX7_comeWord_b119 ln N M  N x2 σ))
  else (
    some ((-1 : Int32), σ))
def fX7_comeWord_b74 (ln : Nat → Nat) (N M : Nat) (k5 : zSt → Option (Int32 × zSt)) (x1_ : Int32) (σ : zSt) : Option (Int32 × zSt) :=
  bnd (zsL σ 1 5 (((zL σ 1 5) <<< ((8 : Int32).toInt64 &&& 63)) ||| (x1_.toInt64))) (fun σ6 =>
  bnd (zsI σ6 1 2 ((zI σ6 1 2) + (1 : Int32))) (fun σ7 =>
  k5  σ7))
def fX7_comeWord_b54 (ln : Nat → Nat) (N M : Nat) (k5 : zSt → Option (Int32 × zSt)) (x1_ : Int32) (s0_ : Int32) (σ : zSt) : Option (Int32 × zSt) :=
  if s0_ = 0 then (
    if x1_ < (48 : Int32) then (
      fX7_comeWord_b101 ln N M   σ)
    else (
      if x1_ ≤ (57 : Int32) then (
        fX7_comeWord_b74 ln N M k5 x1_ σ)
      else (
        fX7_comeWord_b101 ln N M   σ)))
  else (
    fX7_comeWord_b74 ln N M k5 x1_ σ)
def fX7_comeWord_b49 (ln : Nat → Nat) (N M : Nat) (k5 : zSt → Option (Int32 × zSt)) (x1_ : Int32) (σ : zSt) : Option (Int32 × zSt) :=
  fX7_comeWord_b54 ln N M k5 x1_ (1 : Int32) σ
def fX7_comeWord_b43 (ln : Nat → Nat) (N M : Nat) (k5 : zSt → Option (Int32 × zSt)) (x1_ : Int32) (σ : zSt) : Option (Int32 × zSt) :=
  if x1_ = (95 : Int32) then (
    fX7_comeWord_b49 ln N M k5 x1_ σ)
  else (
    fX7_comeWord_b54 ln N M k5 x1_ (0 : Int32) σ)
def fX7_comeWord_b5 (ln : Nat → Nat) (N M : Nat)  : Nat → zSt → Option (Int32 × zSt)
  | 0, _ => none
  | n + 1, σ =>
    if (zI σ 1 1) ≤ (zI σ 1 2) then (
      fX7_comeWord_b101 ln N M   σ)
    else (
      if (zI σ 1 2) < 0 ∨ (ln 15) ≤ (zI σ 1 2).toNatClampNeg then none else (
      bnd (zA σ 15 (zI σ 1 2).toNatClampNeg) (fun x4 =>
      bnd (x4 ||| (32 : Int32)) (fun x5 =>
      if x5 < (97 : Int32) then (
        fX7_comeWord_b43 ln N M (fX7_comeWord_b5 ln N M  n) x4 σ)
      else (
        if x5 ≤ (122 : Int32) then (
          fX7_comeWord_b49 ln N M (fX7_comeWord_b5 ln N M  n) x4 σ)
        else (
          fX7_comeWord_b43 ln N M (fX7_comeWord_b5 ln N M  n) x4 σ))))))
def fX7_comeWord (ln : Nat → Nat) (N M : Nat)  (σ : zSt) : Option (Int32 × zSt) :=
  bnd (zsL σ 1 5 (0 : Int64)) (fun σ1 =>
  fX7_comeWord_b5 ln N M  N  σ1)
def fX7_kindOfPair (ln : Nat → Nat) (N M : Nat) (a0_ : Int32) (a1_ : Int32) (σ : zSt) : Option (Int32 × zSt) :=
  if a1_ = (61 : Int32) then (
    if a0_ = (33 : Int32) then (
      some ((14 : Int32), σ))
    else if a0_ = (60 : Int32) then (
      some ((16 : Int32), σ))
    else if a0_ = (61 : Int32) then (
      some ((13 : Int32), σ))
    else if a0_ = (62 : Int32) then (
      some ((18 : Int32), σ))
    else (
      some ((-1 : Int32), σ)))
  else (
    if a0_ = a1_ then (
      if a0_ = (38 : Int32) then (
        some ((8 : Int32), σ))
      else if a0_ = (60 : Int32) then (
        some ((19 : Int32), σ))
      else if a0_ = (62 : Int32) then (
        some ((20 : Int32), σ))
      else if a0_ = (124 : Int32) then (
        some ((9 : Int32), σ))
      else (
        some ((-1 : Int32), σ)))
    else (
      some ((-1 : Int32), σ)))
def fX7_kindOfSign (ln : Nat → Nat) (N M : Nat) (a0_ : Int32) (σ : zSt) : Option (Int32 × zSt) :=
  if a0_ = (33 : Int32) then (
    some ((25 : Int32), σ))
  else if a0_ = (34 : Int32) then (
    some ((-1 : Int32), σ))
  else if a0_ = (35 : Int32) then (
    some ((-1 : Int32), σ))
  else if a0_ = (36 : Int32) then (
    some ((-1 : Int32), σ))
  else if a0_ = (37 : Int32) then (
    some ((28 : Int32), σ))
  else if a0_ = (38 : Int32) then (
    some ((12 : Int32), σ))
  else if a0_ = (39 : Int32) then (
    some ((-1 : Int32), σ))
  else if a0_ = (40 : Int32) then (
    some ((49 : Int32), σ))
  else if a0_ = (41 : Int32) then (
    some ((50 : Int32), σ))
  else if a0_ = (42 : Int32) then (
    some ((23 : Int32), σ))
  else if a0_ = (43 : Int32) then (
    some ((21 : Int32), σ))
  else if a0_ = (44 : Int32) then (
    some ((55 : Int32), σ))
  else if a0_ = (45 : Int32) then (
    some ((22 : Int32), σ))
  else if a0_ = (46 : Int32) then (
    some ((-1 : Int32), σ))
  else if a0_ = (47 : Int32) then (
    some ((27 : Int32), σ))
  else if a0_ = (48 : Int32) then (
    some ((-1 : Int32), σ))
  else if a0_ = (49 : Int32) then (
    some ((-1 : Int32), σ))
  else if a0_ = (50 : Int32) then (
    some ((-1 : Int32), σ))
  else if a0_ = (51 : Int32) then (
    some ((-1 : Int32), σ))
  else if a0_ = (52 : Int32) then (
    some ((-1 : Int32), σ))
  else if a0_ = (53 : Int32) then (
    some ((-1 : Int32), σ))
  else if a0_ = (54 : Int32) then (
    some ((-1 : Int32), σ))
  else if a0_ = (55 : Int32) then (
    some ((-1 : Int32), σ))
  else if a0_ = (56 : Int32) then (
    some ((-1 : Int32), σ))
  else if a0_ = (57 : Int32) then (
    some ((-1 : Int32), σ))
  else if a0_ = (58 : Int32) then (
    some ((-1 : Int32), σ))
  else if a0_ = (59 : Int32) then (
    some ((56 : Int32), σ))
  else if a0_ = (60 : Int32) then (
    some ((15 : Int32), σ))
  else if a0_ = (61 : Int32) then (
    some ((57 : Int32), σ))
  else if a0_ = (62 : Int32) then (
    some ((17 : Int32), σ))
  else if a0_ = (63 : Int32) then (
    some ((-1 : Int32), σ))
  else if a0_ = (64 : Int32) then (
    some ((-1 : Int32), σ))
  else if a0_ = (65 : Int32) then (
    some ((-1 : Int32), σ))
  else if a0_ = (66 : Int32) then (
    some ((-1 : Int32), σ))
  else if a0_ = (67 : Int32) then (
    some ((-1 : Int32), σ))
  else if a0_ = (68 : Int32) then (
    some ((-1 : Int32), σ))
  else if a0_ = (69 : Int32) then (
    some ((-1 : Int32), σ))
  else if a0_ = (70 : Int32) then (
    some ((-1 : Int32), σ))
  else if a0_ = (71 : Int32) then (
    some ((-1 : Int32), σ))
  else if a0_ = (72 : Int32) then (
    some ((-1 : Int32), σ))
  else if a0_ = (73 : Int32) then (
    some ((-1 : Int32), σ))
  else if a0_ = (74 : Int32) then (
    some ((-1 : Int32), σ))
  else if a0_ = (75 : Int32) then (
    some ((-1 : Int32), σ))
  else if a0_ = (76 : Int32) then (
    some ((-1 : Int32), σ))
  else if a0_ = (77 : Int32) then (
    some ((-1 : Int32), σ))
  else if a0_ = (78 : Int32) then (
    some ((-1 : Int32), σ))
  else if a0_ = (79 : Int32) then (
    some ((-1 : Int32), σ))
  else if a0_ = (80 : Int32) then (
    some ((-1 : Int32), σ))
  else if a0_ = (81 : Int32) then (
    some ((-1 : Int32), σ))
  else if a0_ = (82 : Int32) then (
    some ((-1 : Int32), σ))
  else if a0_ = (83 : Int32) then (
    some ((-1 : Int32), σ))
  else if a0_ = (84 : Int32) then (
    some ((-1 : Int32), σ))
  else if a0_ = (85 : Int32) then (
    some ((-1 : Int32), σ))
  else if a0_ = (86 : Int32) then (
    some ((-1 : Int32), σ))
  else if a0_ = (87 : Int32) then (
    some ((-1 : Int32), σ))
  else if a0_ = (88 : Int32) then (
    some ((-1 : Int32), σ))
  else if a0_ = (89 : Int32) then (
    some ((-1 : Int32), σ))
  else if a0_ = (90 : Int32) then (
    some ((-1 : Int32), σ))
  else if a0_ = (91 : Int32) then (
    some ((53 : Int32), σ))
  else if a0_ = (92 : Int32) then (
    some ((-1 : Int32), σ))
  else if a0_ = (93 : Int32) then (
    some ((54 : Int32), σ))
  else if a0_ = (94 : Int32) then (
    some ((11 : Int32), σ))
  else if a0_ = (95 : Int32) then (
    some ((-1 : Int32), σ))
  else if a0_ = (96 : Int32) then (
    some ((-1 : Int32), σ))
  else if a0_ = (97 : Int32) then (
    some ((-1 : Int32), σ))
  else if a0_ = (98 : Int32) then (
    some ((-1 : Int32), σ))
  else if a0_ = (99 : Int32) then (
    some ((-1 : Int32), σ))
  else if a0_ = (100 : Int32) then (
    some ((-1 : Int32), σ))
  else if a0_ = (101 : Int32) then (
    some ((-1 : Int32), σ))
  else if a0_ = (102 : Int32) then (
    some ((-1 : Int32), σ))
  else if a0_ = (103 : Int32) then (
    some ((-1 : Int32), σ))
  else if a0_ = (104 : Int32) then (
    some ((-1 : Int32), σ))
  else if a0_ = (105 : Int32) then (
    some ((-1 : Int32), σ))
  else if a0_ = (106 : Int32) then (
    some ((-1 : Int32), σ))
  else if a0_ = (107 : Int32) then (
    some ((-1 : Int32), σ))
  else if a0_ = (108 : Int32) then (
    some ((-1 : Int32), σ))
  else if a0_ = (109 : Int32) then (
    some ((-1 : Int32), σ))
  else if a0_ = (110 : Int32) then (
    some ((-1 : Int32), σ))
  else if a0_ = (111 : Int32) then (
    some ((-1 : Int32), σ))
  else if a0_ = (112 : Int32) then (
    some ((-1 : Int32), σ))
  else if a0_ = (113 : Int32) then (
    some ((-1 : Int32), σ))
  else if a0_ = (114 : Int32) then (
    some ((-1 : Int32), σ))
  else if a0_ = (115 : Int32) then (
    some ((-1 : Int32), σ))
  else if a0_ = (116 : Int32) then (
    some ((-1 : Int32), σ))
  else if a0_ = (117 : Int32) then (
    some ((-1 : Int32), σ))
  else if a0_ = (118 : Int32) then (
    some ((-1 : Int32), σ))
  else if a0_ = (119 : Int32) then (
    some ((-1 : Int32), σ))
  else if a0_ = (120 : Int32) then (
    some ((-1 : Int32), σ))
  else if a0_ = (121 : Int32) then (
    some ((-1 : Int32), σ))
  else if a0_ = (122 : Int32) then (
    some ((-1 : Int32), σ))
  else if a0_ = (123 : Int32) then (
    some ((51 : Int32), σ))
  else if a0_ = (124 : Int32) then (
    some ((10 : Int32), σ))
  else if a0_ = (125 : Int32) then (
    some ((52 : Int32), σ))
  else if a0_ = (126 : Int32) then (
    some ((26 : Int32), σ))
  else (
    some ((-1 : Int32), σ))
def fX7_fail_b17 (ln : Nat → Nat) (N M : Nat)   (σ : zSt) : Option (Unit × zSt) :=
  bnd (zsI σ 1 3 (-1 : Int32)) (fun σ1 =>
  some ((), σ1))
def fX7_fail (ln : Nat → Nat) (N M : Nat) (a1_ : Int32) (a2_ : Int32) (σ : zSt) : Option (Unit × zSt) :=
  if (zI σ 1 7) = 0 then (
    bnd (zsI σ 1 7 (a1_ + ((16 : Int32) * a2_))) (fun σ2 =>
    fX7_fail_b17 ln N M   σ2))
  else (
    fX7_fail_b17 ln N M   σ)
def fX7_come_b167 (ln : Nat → Nat) (N M : Nat)   (σ : zSt) : Option (Unit × zSt) :=
  if (zI σ 1 3) = (-1 : Int32) then (
    obd (fX7_fail ln N M (1 : Int32) (zI σ 1 4) σ) (fun _ σ15 =>
    some ((), σ15)))
  else (
    some ((), σ))
def fX7_come_b164 (ln : Nat → Nat) (N M : Nat)  (s0_ : Int32) (σ : zSt) : Option (Unit × zSt) :=
  bnd (zsI σ 1 3 s0_) (fun σ13 =>
  fX7_come_b167 ln N M   σ13)
def fX7_come_b140 (ln : Nat → Nat) (N M : Nat)  (x1_ : Int32) (s0_ : Int32) (s1_ : Int32) (σ : zSt) : Option (Unit × zSt) :=
  bnd (zsI σ 1 2 (s1_ + s0_)) (fun σ12 =>
  if (zI σ12 1 3) = (-1 : Int32) then (
    obd (fX7_kindOfSign ln N M x1_ σ12) (fun r16 σ17 =>
    fX7_come_b164 ln N M  r16 σ17))
  else (
    fX7_come_b164 ln N M  (zI σ12 1 3) σ12))
def fX7_come_b76 (ln : Nat → Nat) (N M : Nat)  (x1_ : Int32) (s0_ : Int32) (σ : zSt) : Option (Unit × zSt) :=
  obd (fX7_isDigit ln N M x1_ σ) (fun r5 σ6 =>
  if r5 = 0 then (
    obd (fX7_isLetter ln N M x1_ σ6) (fun r7 σ8 =>
    if r7 = 0 then (
      obd (fX7_kindOfPair ln N M x1_ s0_ σ8) (fun r9 σ10 =>
      bnd (zsI σ10 1 3 r9) (fun σ11 =>
      if (zI σ11 1 3) = (-1 : Int32) then (
        fX7_come_b140 ln N M  x1_ (1 : Int32) (zI σ11 1 2) σ11)
      else (
        fX7_come_b140 ln N M  x1_ (2 : Int32) (zI σ11 1 2) σ11))))
    else (
      obd (fX7_comeWord ln N M  σ8) (fun r18 σ19 =>
      bnd (zsI σ19 1 3 r18) (fun σ20 =>
      fX7_come_b167 ln N M   σ20)))))
  else (
    obd (fX7_comeNumber ln N M  σ6) (fun r21 σ22 =>
    bnd (zsI σ22 1 3 r21) (fun σ23 =>
    fX7_come_b167 ln N M   σ23))))
def fX7_come (ln : Nat → Nat) (N M : Nat)  (σ : zSt) : Option (Unit × zSt) :=
  if (zI σ 1 7) = 0 then (
    obd (fX7_skipBlanks ln N M  σ) (fun _ σ2 =>
    bnd (zsI σ2 1 4 (zI σ2 1 2)) (fun σ3 =>
    if (zI σ3 1 2) < (zI σ3 1 1) then (
      if (zI σ3 1 2) < 0 ∨ (ln 15) ≤ (zI σ3 1 2).toNatClampNeg then none else (
      bnd (zA σ3 15 (zI σ3 1 2).toNatClampNeg) (fun x4 =>
      if (zI σ3 1 1) ≤ ((zI σ3 1 2) + (1 : Int32)) then (
        fX7_come_b76 ln N M  x4 (0 : Int32) σ3)
      else (
        if ((zI σ3 1 2) + (1 : Int32)) < 0 ∨ (ln 15) ≤ ((zI σ3 1 2) + (1 : Int32)).toNatClampNeg then none else (
        fX7_come_b76 ln N M  x4 (zA σ3 15 ((zI σ3 1 2) + (1 : Int32)).toNatClampNeg) σ3)))))
    else (
      bnd (zsI σ3 1 3 (58 : Int32)) (fun σ24 =>
      some ((), σ24))))))
  else (
    some ((), σ))
def fX7_begin (ln : Nat → Nat) (N M : Nat)  (σ : zSt) : Option (Unit × zSt) :=
  bnd (zsI σ 1 7 (0 : Int32)) (fun σ1 =>
  bnd (zsI σ1 1 2 (0 : Int32)) (fun σ2 =>
  obd (fX7_come ln N M  σ2) (fun _ σ4 =>
  some ((), σ4))))
def fX0_addWithTwo_b48 (ln : Nat → Nat) (N M : Nat) (q_ : Nat)   (σ : zSt) : Option (Unit × zSt) :=
  bnd (zsI σ q_ 1 ((zI σ q_ 1) + (3 : Int32))) (fun σ1 =>
  some ((), σ1))
def fX0_addWithTwo (ln : Nat → Nat) (N M : Nat) (q_ : Nat) (a1_ : Int32) (a2_ : Int32) (a3_ : Int32) (σ : zSt) : Option (Unit × zSt) :=
  if ((nI (ln (q_ + 32))) - (2 : Int32)) ≤ (zI σ q_ 1) then (
    fX0_addWithTwo_b48 ln N M q_   σ)
  else (
    if (zI σ q_ 1) < 0 ∨ (ln (q_ + 32)) ≤ (zI σ q_ 1).toNatClampNeg then none else (
    bnd (zsA σ (q_ + 32) (zI σ q_ 1).toNatClampNeg a1_) (fun σ2 =>
    if ((zI σ2 q_ 1) + (1 : Int32)) < 0 ∨ (ln (q_ + 32)) ≤ ((zI σ2 q_ 1) + (1 : Int32)).toNatClampNeg then none else (
    bnd (zsA σ2 (q_ + 32) ((zI σ2 q_ 1) + (1 : Int32)).toNatClampNeg a2_) (fun σ3 =>
    if ((zI σ3 q_ 1) + (2 : Int32)) < 0 ∨ (ln (q_ + 32)) ≤ ((zI σ3 q_ 1) + (2 : Int32)).toNatClampNeg then none else (
    bnd (zsA σ3 (q_ + 32) ((zI σ3 q_ 1) + (2 : Int32)).toNatClampNeg a3_) (fun σ4 =>
    fX0_addWithTwo_b48 ln N M q_   σ4)))))))
def fX0_add_b22 (ln : Nat → Nat) (N M : Nat) (q_ : Nat)   (σ : zSt) : Option (Unit × zSt) :=
  bnd (zsI σ q_ 1 ((zI σ q_ 1) + (1 : Int32))) (fun σ1 =>
  some ((), σ1))
def fX0_add (ln : Nat → Nat) (N M : Nat) (q_ : Nat) (a1_ : Int32) (σ : zSt) : Option (Unit × zSt) :=
  if (nI (ln (q_ + 32))) ≤ (zI σ q_ 1) then (
    fX0_add_b22 ln N M q_   σ)
  else (
    if (zI σ q_ 1) < 0 ∨ (ln (q_ + 32)) ≤ (zI σ q_ 1).toNatClampNeg then none else (
    bnd (zsA σ (q_ + 32) (zI σ q_ 1).toNatClampNeg a1_) (fun σ2 =>
    fX0_add_b22 ln N M q_   σ2)))
def fX7_failHere_b20 (ln : Nat → Nat) (N M : Nat)   (σ : zSt) : Option (Unit × zSt) :=
  bnd (zsI σ 1 3 (-1 : Int32)) (fun σ1 =>
  some ((), σ1))
def fX7_failHere (ln : Nat → Nat) (N M : Nat) (a1_ : Int32) (σ : zSt) : Option (Unit × zSt) :=
  if (zI σ 1 7) = 0 then (
    bnd (zsI σ 1 7 (a1_ + ((16 : Int32) * (zI σ 1 4)))) (fun σ2 =>
    fX7_failHere_b20 ln N M   σ2))
  else (
    fX7_failHere_b20 ln N M   σ)
def fX4_find_b8 (ln : Nat → Nat) (N M : Nat)  : Nat → Int64 → Int32 → Int32 → zSt → Option (Int32 × zSt)
  | 0, _, _, _, _ => none
  | n + 1, x1_, x3_, x4_, σ =>
    if x4_ < x3_ then (
      some ((-1 : Int32), σ))
    else (
      if x4_ < 0 then (
        some ((-1 : Int32), σ))
      else (
        if x4_ < 0 ∨ (ln 16) ≤ x4_.toNatClampNeg then none else (
        if (lg_cmp (zB σ 16 x4_.toNatClampNeg) x1_) = 0 then (
          some (x4_, σ))
        else (
          bnd (x4_ + (-1 : Int32)) (fun x2 =>
          fX4_find_b8 ln N M  n x1_ x3_ x2 σ)))))
def fX4_find (ln : Nat → Nat) (N M : Nat) (a1_ : Int64) (a3_ : Int32) (σ : zSt) : Option (Int32 × zSt) :=
  bnd ((zI σ 4 5) - (1 : Int32)) (fun x1 =>
  fX4_find_b8 ln N M  N a1_ a3_ x1 σ)
def fX6_toldName_b49 (ln : Nat → Nat) (N M : Nat)   (σ : zSt) : Option (Unit × zSt) :=
  obd (fX7_come ln N M  σ) (fun _ σ4 =>
  some ((), σ4))
def fX6_toldName (ln : Nat → Nat) (N M : Nat) (a1_ : Int32) (σ : zSt) : Option (Unit × zSt) :=
  if (zI σ 1 3) = (40 : Int32) then (
    obd (fX4_find ln N M (zL σ 1 5) a1_ σ) (fun r1 σ2 =>
    if r1 < 0 then (
      fX6_toldName_b49 ln N M   σ2)
    else (
      obd (fX7_failHere ln N M (4 : Int32) σ2) (fun _ σ6 =>
      fX6_toldName_b49 ln N M   σ6))))
  else (
    obd (fX7_failHere ln N M (2 : Int32) σ) (fun _ σ8 =>
    fX6_toldName_b49 ln N M   σ8))
def fX1_takeCells (ln : Nat → Nat) (N M : Nat) (a1_ : Int32) (σ : zSt) : Option (Unit × zSt) :=
  if (4 : Int32) ≤ (zI σ 3 3) then (
    bnd (zsI σ 3 3 ((zI σ 3 3) - (4 : Int32))) (fun σ1 =>
    some ((), σ1)))
  else (
    obd (fX7_fail ln N M (9 : Int32) a1_ σ) (fun _ σ3 =>
    some ((), σ3)))
def fX9_add (ln : Nat → Nat) (N M : Nat) (q_ : Nat) (a1_ : Int32) (a2_ : Int32) (a3_ : Int32) (a4_ : Int32) (σ : zSt) : Option (Int32 × zSt) :=
  if (zI σ q_ 6) < (nI (ln (6 * q_ - 33))) then (
    if (zI σ q_ 6) < 0 ∨ (ln (6 * q_ - 33)) ≤ (zI σ q_ 6).toNatClampNeg then none else (
    bnd (zsA σ (6 * q_ - 33) (zI σ q_ 6).toNatClampNeg a1_) (fun σ1 =>
    if (zI σ1 q_ 6) < 0 ∨ (ln (6 * q_ - 32)) ≤ (zI σ1 q_ 6).toNatClampNeg then none else (
    bnd (zsA σ1 (6 * q_ - 32) (zI σ1 q_ 6).toNatClampNeg a2_) (fun σ2 =>
    if (zI σ2 q_ 6) < 0 ∨ (ln (6 * q_ - 31)) ≤ (zI σ2 q_ 6).toNatClampNeg then none else (
    bnd (zsA σ2 (6 * q_ - 31) (zI σ2 q_ 6).toNatClampNeg a3_) (fun σ3 =>
    if (zI σ3 q_ 6) < 0 ∨ (ln (6 * q_ - 30)) ≤ (zI σ3 q_ 6).toNatClampNeg then none else (
    bnd (zsA σ3 (6 * q_ - 30) (zI σ3 q_ 6).toNatClampNeg a4_) (fun σ4 =>
    if (zI σ4 q_ 6) < 0 ∨ (ln (6 * q_ - 29)) ≤ (zI σ4 q_ 6).toNatClampNeg then none else (
    bnd (zsA σ4 (6 * q_ - 29) (zI σ4 q_ 6).toNatClampNeg (-1 : Int32)) (fun σ5 =>
    if (zI σ5 q_ 6) < 0 ∨ (ln (6 * q_ - 28)) ≤ (zI σ5 q_ 6).toNatClampNeg then none else (
    bnd (zsA σ5 (6 * q_ - 28) (zI σ5 q_ 6).toNatClampNeg (-1 : Int32)) (fun σ6 =>
    bnd (zsI σ6 q_ 6 ((zI σ6 q_ 6) + (1 : Int32))) (fun σ7 =>
    some ((zI σ7 q_ 6) - (1 : Int32), σ7)))))))))))))))
  else (
    some ((-1 : Int32), σ))
def fX4_add (ln : Nat → Nat) (N M : Nat) (a1_ : Int64) (a3_ : Int32) (a4_ : Int32) (a5_ : Int32) (σ : zSt) : Option (Unit × zSt) :=
  if (nI (ln 16)) ≤ (zI σ 4 5) then (
    some ((), σ))
  else (
    if (zI σ 4 5) < 0 ∨ (ln 16) ≤ (zI σ 4 5).toNatClampNeg then none else (
    bnd (zsB σ 16 (zI σ 4 5).toNatClampNeg a1_) (fun σ1 =>
    if (zI σ1 4 5) < 0 ∨ (ln 17) ≤ (zI σ1 4 5).toNatClampNeg then none else (
    bnd (zsA σ1 17 (zI σ1 4 5).toNatClampNeg a3_) (fun σ2 =>
    if (zI σ2 4 5) < 0 ∨ (ln 18) ≤ (zI σ2 4 5).toNatClampNeg then none else (
    bnd (zsA σ2 18 (zI σ2 4 5).toNatClampNeg a4_) (fun σ3 =>
    if (zI σ3 4 5) < 0 ∨ (ln 19) ≤ (zI σ3 4 5).toNatClampNeg then none else (
    bnd (zsA σ3 19 (zI σ3 4 5).toNatClampNeg a5_) (fun σ4 =>
    if (zI σ4 4 5) < 0 ∨ (ln 20) ≤ (zI σ4 4 5).toNatClampNeg then none else (
    bnd (zsA σ4 20 (zI σ4 4 5).toNatClampNeg (-1 : Int32)) (fun σ5 =>
    bnd (zsI σ5 4 5 ((zI σ5 4 5) + (1 : Int32))) (fun σ6 =>
    some ((), σ6)))))))))))))
def fX4_setNode (ln : Nat → Nat) (N M : Nat) (a1_ : Int32) (a2_ : Int32) (σ : zSt) : Option (Unit × zSt) :=
  if a1_ < 0 then (
    some ((), σ))
  else (
    if (zI σ 4 5) ≤ a1_ then (
      some ((), σ))
    else (
      if a1_ < 0 ∨ (ln 20) ≤ a1_.toNatClampNeg then none else (
      bnd (zsA σ 20 a1_.toNatClampNeg a2_) (fun σ1 =>
      some ((), σ1)))))
def fX1_enter (ln : Nat → Nat) (N M : Nat)  (σ : zSt) : Option (Unit × zSt) :=
  if (zI σ 3 4) < (40 : Int32) then (
    bnd (zsI σ 3 4 ((zI σ 3 4) + (1 : Int32))) (fun σ1 =>
    some ((), σ1)))
  else (
    obd (fX7_failHere ln N M (8 : Int32) σ) (fun _ σ3 =>
    some ((), σ3)))
def fX7_need (ln : Nat → Nat) (N M : Nat) (a1_ : Int32) (σ : zSt) : Option (Unit × zSt) :=
  if (zI σ 1 3) = a1_ then (
    some ((), σ))
  else (
    obd (fX7_failHere ln N M (2 : Int32) σ) (fun _ σ2 =>
    some ((), σ2)))
def fX7_pass (ln : Nat → Nat) (N M : Nat) (a1_ : Int32) (σ : zSt) : Option (Unit × zSt) :=
  obd (fX7_need ln N M a1_ σ) (fun _ σ2 =>
  obd (fX7_come ln N M  σ2) (fun _ σ4 =>
  some ((), σ4)))
def fX6_parameter_b69 (ln : Nat → Nat) (N M : Nat)  (x2_ : Int32) (x3_ : Int64) (σ : zSt) : Option (Unit × zSt) :=
  obd (fX4_add ln N M x3_ (3 : Int32) x2_ (0 : Int32) σ) (fun _ σ5 =>
  obd (fX7_come ln N M  σ5) (fun _ σ7 =>
  some ((), σ7)))
def fX6_parameter (ln : Nat → Nat) (N M : Nat) (a1_ : Int32) (a2_ : Int32) (σ : zSt) : Option (Unit × zSt) :=
  bnd (zL σ 1 5) (fun x1 =>
  if (zI σ 1 3) = (40 : Int32) then (
    obd (fX4_find ln N M x1 a1_ σ) (fun r2 σ3 =>
    if r2 < 0 then (
      if a2_ < (8 : Int32) then (
        fX6_parameter_b69 ln N M  a2_ x1 σ3)
      else (
        obd (fX7_failHere ln N M (6 : Int32) σ3) (fun _ σ9 =>
        fX6_parameter_b69 ln N M  a2_ x1 σ9)))
    else (
      obd (fX7_failHere ln N M (4 : Int32) σ3) (fun _ σ11 =>
      fX6_parameter_b69 ln N M  a2_ x1 σ11))))
  else (
    obd (fX7_failHere ln N M (2 : Int32) σ) (fun _ σ13 =>
    fX6_parameter_b69 ln N M  a2_ x1 σ13)))
def fX1_leave (ln : Nat → Nat) (N M : Nat)  (σ : zSt) : Option (Unit × zSt) :=
  bnd (zsI σ 3 4 ((zI σ 3 4) - (1 : Int32))) (fun σ1 =>
  some ((), σ1))
def fX4_setPlace (ln : Nat → Nat) (N M : Nat) (a1_ : Int32) (a2_ : Int32) (σ : zSt) : Option (Unit × zSt) :=
  if a1_ < 0 then (
    some ((), σ))
  else (
    if (zI σ 4 5) ≤ a1_ then (
      some ((), σ))
    else (
      if a1_ < 0 ∨ (ln 18) ≤ a1_.toNatClampNeg then none else (
      bnd (zsA σ 18 a1_.toNatClampNeg a2_) (fun σ1 =>
      some ((), σ1)))))
def fX6_parameters_b113 (ln : Nat → Nat) (N M : Nat)  : Nat → Int32 → Int32 → Int32 → zSt → Option (Int32 × zSt)
  | 0, _, _, _, _ => none
  | n + 1, x1_, x2_, x3_, σ =>
    if x2_ ≤ x3_ then (
      some (x2_, σ))
    else (
      obd (fX4_setPlace ln N M (x1_ + x3_) ((x3_ - (2 : Int32)) - x2_) σ) (fun _ σ13 =>
      bnd (x3_ + (1 : Int32)) (fun x14 =>
      fX6_parameters_b113 ln N M  n x1_ x2_ x14 σ13)))
def fX6_parameters_b87 (ln : Nat → Nat) (N M : Nat)  (x1_ : Int32) (x2_ : Int32) (σ : zSt) : Option (Int32 × zSt) :=
  obd (fX7_pass ln N M (50 : Int32) σ) (fun _ σ7 =>
  obd (fX1_leave ln N M  σ7) (fun _ σ9 =>
  bnd (zsI σ9 3 5 x2_) (fun σ10 =>
  bnd (0 : Int32) (fun x11 =>
  fX6_parameters_b113 ln N M  N x1_ x2_ x11 σ10))))
def fX6_parameters_b30 (ln : Nat → Nat) (N M : Nat)  : Nat → Int32 → Int32 → Int32 → zSt → Option (Int32 × zSt)
  | 0, _, _, _, _ => none
  | n + 1, x1_, x2_, x3_, σ =>
    if (zI σ 1 1) < x3_ then (
      fX6_parameters_b87 ln N M  x1_ x2_ σ)
    else (
      obd (fX7_pass ln N M (42 : Int32) σ) (fun _ σ17 =>
      obd (fX6_parameter ln N M x1_ x2_ σ17) (fun _ σ19 =>
      bnd (x2_ + (1 : Int32)) (fun x20 =>
      if (zI σ19 1 3) = (55 : Int32) then (
        obd (fX7_come ln N M  σ19) (fun _ σ22 =>
        bnd (x3_ + (1 : Int32)) (fun x23 =>
        fX6_parameters_b30 ln N M  n x1_ x20 x23 σ22)))
      else (
        fX6_parameters_b87 ln N M  x1_ x20 σ19)))))
def fX6_parameters (ln : Nat → Nat) (N M : Nat) (a1_ : Int32) (σ : zSt) : Option (Int32 × zSt) :=
  obd (fX1_enter ln N M  σ) (fun _ σ2 =>
  obd (fX7_come ln N M  σ2) (fun _ σ4 =>
  bnd (0 : Int32) (fun x5 =>
  if (zI σ4 1 3) = (50 : Int32) then (
    fX6_parameters_b87 ln N M  a1_ x5 σ4)
  else (
    bnd (0 : Int32) (fun x15 =>
    fX6_parameters_b30 ln N M  N a1_ x5 x15 σ4)))))
def fX4_setCount (ln : Nat → Nat) (N M : Nat) (a1_ : Int32) (a2_ : Int32) (σ : zSt) : Option (Unit × zSt) :=
  if a1_ < 0 then (
    some ((), σ))
  else (
    if (zI σ 4 5) ≤ a1_ then (
      some ((), σ))
    else (
      if a1_ < 0 ∨ (ln 19) ≤ a1_.toNatClampNeg then none else (
      bnd (zsA σ 19 a1_.toNatClampNeg a2_) (fun σ1 =>
      some ((), σ1)))))
def fX9_setA (ln : Nat → Nat) (N M : Nat) (q_ : Nat) (a1_ : Int32) (a2_ : Int32) (σ : zSt) : Option (Unit × zSt) :=
  if a1_ < 0 then (
    some ((), σ))
  else (
    if (zI σ q_ 6) ≤ a1_ then (
      some ((), σ))
    else (
      if a1_ < 0 ∨ (ln (6 * q_ - 32)) ≤ a1_.toNatClampNeg then none else (
      bnd (zsA σ (6 * q_ - 32) a1_.toNatClampNeg a2_) (fun σ1 =>
      some ((), σ1)))))
def fX0_set (ln : Nat → Nat) (N M : Nat) (q_ : Nat) (a1_ : Int32) (a2_ : Int32) (σ : zSt) : Option (Unit × zSt) :=
  if a1_ < 0 then (
    some ((), σ))
  else (
    if (nI (ln (q_ + 32))) ≤ a1_ then (
      some ((), σ))
    else (
      if a1_ < 0 ∨ (ln (q_ + 32)) ≤ a1_.toNatClampNeg then none else (
      bnd (zsA σ (q_ + 32) a1_.toNatClampNeg a2_) (fun σ1 =>
      some ((), σ1)))))
def fX0_addWith_b36 (ln : Nat → Nat) (N M : Nat) (q_ : Nat)   (σ : zSt) : Option (Unit × zSt) :=
  bnd (zsI σ q_ 1 ((zI σ q_ 1) + (2 : Int32))) (fun σ1 =>
  some ((), σ1))
def fX0_addWith (ln : Nat → Nat) (N M : Nat) (q_ : Nat) (a1_ : Int32) (a2_ : Int32) (σ : zSt) : Option (Unit × zSt) :=
  if ((nI (ln (q_ + 32))) - (1 : Int32)) ≤ (zI σ q_ 1) then (
    fX0_addWith_b36 ln N M q_   σ)
  else (
    if (zI σ q_ 1) < 0 ∨ (ln (q_ + 32)) ≤ (zI σ q_ 1).toNatClampNeg then none else (
    bnd (zsA σ (q_ + 32) (zI σ q_ 1).toNatClampNeg a1_) (fun σ2 =>
    if ((zI σ2 q_ 1) + (1 : Int32)) < 0 ∨ (ln (q_ + 32)) ≤ ((zI σ2 q_ 1) + (1 : Int32)).toNatClampNeg then none else (
    bnd (zsA σ2 (q_ + 32) ((zI σ2 q_ 1) + (1 : Int32)).toNatClampNeg a2_) (fun σ3 =>
    fX0_addWith_b36 ln N M q_   σ3)))))
def fX6_openFunction_b135 (ln : Nat → Nat) (N M : Nat)   (σ : zSt) : Option (Unit × zSt) :=
  bnd (zsI σ 2 8 (0 : Int32)) (fun σ20 =>
  bnd (zsI σ20 2 9 (0 : Int32)) (fun σ21 =>
  rbd (zR σ21 2 6) 13 14 (fun q22 =>
  obd (fX0_addWith ln N M q22 (37 : Int32) (0 : Int32) σ21) (fun _ σ24 =>
  obd (fX7_need ln N M (51 : Int32) σ24) (fun _ σ26 =>
  obd (fX1_enter ln N M  σ26) (fun _ σ28 =>
  some ((), σ28)))))))
def fX6_openFunction (ln : Nat → Nat) (N M : Nat) (a1_ : Int64) (a3_ : Int32) (σ : zSt) : Option (Unit × zSt) :=
  obd (fX1_takeCells ln N M a3_ σ) (fun _ σ2 =>
  rbd (zR σ2 2 6) 13 14 (fun q3 =>
  bnd (zI σ2 q3 1) (fun x4 =>
  bnd (zsI σ2 2 7 (zI σ2 4 5)) (fun σ5 =>
  rbd (zR σ5 2 5) 11 12 (fun q6 =>
  obd (fX9_add ln N M q6 (19 : Int32) (0 : Int32) (-1 : Int32) (0 : Int32) σ5) (fun r7 σ8 =>
  obd (fX4_add ln N M a1_ (2 : Int32) x4 (0 : Int32) σ8) (fun _ σ10 =>
  obd (fX4_setNode ln N M (zI σ10 2 7) r7 σ10) (fun _ σ12 =>
  obd (fX6_parameters ln N M ((zI σ12 2 7) + (1 : Int32)) σ12) (fun r13 σ14 =>
  obd (fX4_setCount ln N M (zI σ14 2 7) r13 σ14) (fun _ σ16 =>
  rbd (zR σ16 2 5) 11 12 (fun q17 =>
  obd (fX9_setA ln N M q17 r7 r13 σ16) (fun _ σ19 =>
  if (lg_cmp a1_ (1835100526 : Int64)) = 0 then (
    if r13 = 0 then (
      rbd (zR σ19 2 4) 9 10 (fun q29 =>
      bnd (zsI σ19 q29 3 r7) (fun σ30 =>
      rbd (zR σ30 2 6) 13 14 (fun q31 =>
      obd (fX0_set ln N M q31 (1 : Int32) x4 σ30) (fun _ σ33 =>
      fX6_openFunction_b135 ln N M   σ33)))))
    else (
      fX6_openFunction_b135 ln N M   σ19))
  else (
    fX6_openFunction_b135 ln N M   σ19)))))))))))))
def fX2_push (ln : Nat → Nat) (N M : Nat) (a1_ : Int32) (a2_ : Int32) (a3_ : Int32) (σ : zSt) : Option (Unit × zSt) :=
  if (nI (ln 21)) ≤ (zI σ 5 6) then (
    some ((), σ))
  else (
    if (zI σ 5 6) < 0 ∨ (ln 21) ≤ (zI σ 5 6).toNatClampNeg then none else (
    bnd (zsA σ 21 (zI σ 5 6).toNatClampNeg a1_) (fun σ1 =>
    if (zI σ1 5 6) < 0 ∨ (ln 22) ≤ (zI σ1 5 6).toNatClampNeg then none else (
    bnd (zsA σ1 22 (zI σ1 5 6).toNatClampNeg a2_) (fun σ2 =>
    if (zI σ2 5 6) < 0 ∨ (ln 23) ≤ (zI σ2 5 6).toNatClampNeg then none else (
    bnd (zsA σ2 23 (zI σ2 5 6).toNatClampNeg a3_) (fun σ3 =>
    bnd (zsI σ3 5 6 ((zI σ3 5 6) + (1 : Int32))) (fun σ4 =>
    some ((), σ4)))))))))
def fX2_openOnes_b32 (ln : Nat → Nat) (N M : Nat) (k2 : Int32 → zSt → Option (Unit × zSt)) (x1_ : Int32) (s0_ : Int32) (σ : zSt) : Option (Unit × zSt) :=
  if s0_ < (24 : Int32) then (
    some ((), σ))
  else (
    if s0_ ≤ (26 : Int32) then (
      obd (fX1_enter ln N M  σ) (fun _ σ3 =>
      obd (fX1_takeCells ln N M (zI σ3 1 4) σ3) (fun _ σ5 =>
      obd (fX2_push ln N M s0_ (-1 : Int32) (-1 : Int32) σ5) (fun _ σ7 =>
      obd (fX7_come ln N M  σ7) (fun _ σ9 =>
      bnd (x1_ + (1 : Int32)) (fun x10 =>
      k2 x10 σ9))))))
    else (
      some ((), σ)))
def fX2_openOnes_b2 (ln : Nat → Nat) (N M : Nat)  : Nat → Int32 → zSt → Option (Unit × zSt)
  | 0, _, _ => none
  | n + 1, x1_, σ =>
    if (40 : Int32) < x1_ then (
      some ((), σ))
    else (
      if (zI σ 1 3) = (22 : Int32) then (
        fX2_openOnes_b32 ln N M (fX2_openOnes_b2 ln N M  n) x1_ (24 : Int32) σ)
      else (
        fX2_openOnes_b32 ln N M (fX2_openOnes_b2 ln N M  n) x1_ (zI σ 1 3) σ))
def fX2_openOnes (ln : Nat → Nat) (N M : Nat)  (σ : zSt) : Option (Unit × zSt) :=
  bnd (0 : Int32) (fun x1 =>
  fX2_openOnes_b2 ln N M  N x1 σ)
def fX2_number_b37 (ln : Nat → Nat) (N M : Nat)   (σ : zSt) : Option (Int32 × zSt) :=
  bnd ((zL σ 1 6).toInt32) (fun x3 =>
  rbd (zR σ 5 9) 13 14 (fun q4 =>
  obd (fX0_addWith ln N M q4 (1 : Int32) x3 σ) (fun _ σ6 =>
  obd (fX7_come ln N M  σ6) (fun _ σ8 =>
  rbd (zR σ8 5 8) 11 12 (fun q9 =>
  obd (fX9_add ln N M q9 (1 : Int32) x3 (-1 : Int32) (-1 : Int32) σ8) (fun r10 σ11 =>
  some (r10, σ11)))))))
def fX2_number (ln : Nat → Nat) (N M : Nat)  (σ : zSt) : Option (Int32 × zSt) :=
  obd (fX1_takeCells ln N M (zI σ 1 4) σ) (fun _ σ2 =>
  if (lg_cmp (zL σ2 1 6) (2147483647 : Int64)) ≤ 0 then (
    fX2_number_b37 ln N M   σ2)
  else (
    obd (fX7_failHere ln N M (11 : Int32) σ2) (fun _ σ13 =>
    fX2_number_b37 ln N M   σ13)))
def fX4_isSort (ln : Nat → Nat) (N M : Nat) (a1_ : Int32) (a2_ : Int32) (σ : zSt) : Option (Int32 × zSt) :=
  if a1_ < 0 then (
    some ((0 : Int32), σ))
  else (
    if (zI σ 4 5) ≤ a1_ then (
      some ((0 : Int32), σ))
    else (
      if a1_ < 0 ∨ (ln 17) ≤ a1_.toNatClampNeg then none else (
      if (zA σ 17 a1_.toNatClampNeg) = a2_ then (
        some ((1 : Int32), σ))
      else (
        some ((0 : Int32), σ)))))
def fX9_setNext (ln : Nat → Nat) (N M : Nat) (q_ : Nat) (a1_ : Int32) (a2_ : Int32) (σ : zSt) : Option (Unit × zSt) :=
  if a1_ < 0 then (
    some ((), σ))
  else (
    if (zI σ q_ 6) ≤ a1_ then (
      some ((), σ))
    else (
      if a1_ < 0 ∨ (ln (6 * q_ - 28)) ≤ a1_.toNatClampNeg then none else (
      bnd (zsA σ (6 * q_ - 28) a1_.toNatClampNeg a2_) (fun σ1 =>
      some ((), σ1)))))
def fX4_countOf (ln : Nat → Nat) (N M : Nat) (a1_ : Int32) (σ : zSt) : Option (Int32 × zSt) :=
  if a1_ < 0 then (
    some ((0 : Int32), σ))
  else (
    if (zI σ 4 5) ≤ a1_ then (
      some ((0 : Int32), σ))
    else (
      if a1_ < 0 ∨ (ln 19) ≤ a1_.toNatClampNeg then none else (
      some (zA σ 19 a1_.toNatClampNeg, σ))))
def fX4_placeOf (ln : Nat → Nat) (N M : Nat) (a1_ : Int32) (σ : zSt) : Option (Int32 × zSt) :=
  if a1_ < 0 then (
    some ((0 : Int32), σ))
  else (
    if (zI σ 4 5) ≤ a1_ then (
      some ((0 : Int32), σ))
    else (
      if a1_ < 0 ∨ (ln 18) ≤ a1_.toNatClampNeg then none else (
      some (zA σ 18 a1_.toNatClampNeg, σ))))
def fX4_nodeOf (ln : Nat → Nat) (N M : Nat) (a1_ : Int32) (σ : zSt) : Option (Int32 × zSt) :=
  if a1_ < 0 then (
    some ((-1 : Int32), σ))
  else (
    if (zI σ 4 5) ≤ a1_ then (
      some ((-1 : Int32), σ))
    else (
      if a1_ < 0 ∨ (ln 20) ≤ a1_.toNatClampNeg then none else (
      some (zA σ 20 a1_.toNatClampNeg, σ))))
def fX2_call_b143 (ln : Nat → Nat) (N M : Nat) (K : Int32 → zSt → Option (Int32 × zSt))  (x1_ : Int32) (x3_ : Int32) (x4_ : Int32) (σ : zSt) : Option (Int32 × zSt) :=
  obd (fX1_leave ln N M  σ) (fun _ σ12 =>
  obd (fX7_come ln N M  σ12) (fun _ σ14 =>
  rbd (zR σ14 5 9) 13 14 (fun q15 =>
  obd (fX4_placeOf ln N M x1_ σ14) (fun r16 σ17 =>
  obd (fX0_addWithTwo ln N M q15 (32 : Int32) r16 x3_ σ17) (fun _ σ19 =>
  rbd (zR σ19 5 8) 11 12 (fun q20 =>
  obd (fX4_nodeOf ln N M x1_ σ19) (fun r21 σ22 =>
  obd (fX9_add ln N M q20 (8 : Int32) r21 x4_ (-1 : Int32) σ22) (fun r23 σ24 =>
  some (r23, σ24)))))))))
def fX2_call_b121 (ln : Nat → Nat) (N M : Nat) (K : Int32 → zSt → Option (Int32 × zSt))  (x1_ : Int32) (x2_ : Int32) (x3_ : Int32) (x4_ : Int32) (σ : zSt) : Option (Int32 × zSt) :=
  obd (fX4_countOf ln N M x1_ σ) (fun r9 σ10 =>
  if x3_ = r9 then (
    fX2_call_b143 ln N M K  x1_ x3_ x4_ σ10)
  else (
    obd (fX7_fail ln N M (6 : Int32) x2_ σ10) (fun _ σ26 =>
    fX2_call_b143 ln N M K  x1_ x3_ x4_ σ26)))
def fX2_call_b55 (ln : Nat → Nat) (N M : Nat) (K : Int32 → zSt → Option (Int32 × zSt))  : Nat → Int32 → Int32 → Int32 → Int32 → Int32 → zSt → Option (Int32 × zSt)
  | 0, _, _, _, _, _, _ => none
  | n + 1, x1_, x2_, x3_, x4_, x5_, σ =>
    if (zI σ 1 1) < x5_ then (
      fX2_call_b121 ln N M K  x1_ x2_ x3_ x4_ σ)
    else (
      obd (K (55 : Int32) σ) (fun r28 σ29 =>
      rbd (zR σ29 5 8) 11 12 (fun q30 =>
      obd (fX9_setNext ln N M q30 r28 x4_ σ29) (fun _ σ32 =>
      bnd (x3_ + (1 : Int32)) (fun x33 =>
      if (zI σ32 1 3) = (55 : Int32) then (
        obd (fX7_come ln N M  σ32) (fun _ σ35 =>
        bnd (x5_ + (1 : Int32)) (fun x36 =>
        fX2_call_b55 ln N M K  n x1_ x2_ x33 r28 x36 σ35)))
      else (
        fX2_call_b121 ln N M K  x1_ x2_ x33 r28 σ32))))))
def fX2_call_b21 (ln : Nat → Nat) (N M : Nat) (K : Int32 → zSt → Option (Int32 × zSt))  (x1_ : Int32) (x2_ : Int32) (σ : zSt) : Option (Int32 × zSt) :=
  obd (fX1_enter ln N M  σ) (fun _ σ4 =>
  obd (fX7_come ln N M  σ4) (fun _ σ6 =>
  bnd (0 : Int32) (fun x7 =>
  bnd (-1 : Int32) (fun x8 =>
  if (zI σ6 1 3) = (50 : Int32) then (
    fX2_call_b121 ln N M K  x1_ x2_ x7 x8 σ6)
  else (
    bnd (0 : Int32) (fun x27 =>
    fX2_call_b55 ln N M K  N x1_ x2_ x7 x8 x27 σ6))))))
def fX2_call (ln : Nat → Nat) (N M : Nat) (K : Int32 → zSt → Option (Int32 × zSt)) (a1_ : Int32) (a2_ : Int32) (σ : zSt) : Option (Int32 × zSt) :=
  obd (fX4_isSort ln N M a1_ (2 : Int32) σ) (fun r1 σ2 =>
  if r1 = 0 then (
    obd (fX7_fail ln N M (5 : Int32) a2_ σ2) (fun _ σ38 =>
    fX2_call_b21 ln N M K  a1_ a2_ σ38))
  else (
    fX2_call_b21 ln N M K  a1_ a2_ σ2))
def fX2_index_b21 (ln : Nat → Nat) (N M : Nat) (K : Int32 → zSt → Option (Int32 × zSt))   (σ : zSt) : Option (Int32 × zSt) :=
  obd (fX1_enter ln N M  σ) (fun _ σ4 =>
  obd (fX7_come ln N M  σ4) (fun _ σ6 =>
  obd (K (54 : Int32) σ6) (fun r7 σ8 =>
  obd (fX1_leave ln N M  σ8) (fun _ σ10 =>
  obd (fX7_come ln N M  σ10) (fun _ σ12 =>
  some (r7, σ12))))))
def fX2_index (ln : Nat → Nat) (N M : Nat) (K : Int32 → zSt → Option (Int32 × zSt)) (a1_ : Int32) (a2_ : Int32) (σ : zSt) : Option (Int32 × zSt) :=
  obd (fX4_isSort ln N M a1_ (1 : Int32) σ) (fun r1 σ2 =>
  if r1 = 0 then (
    obd (fX7_fail ln N M (5 : Int32) a2_ σ2) (fun _ σ14 =>
    fX2_index_b21 ln N M K   σ14))
  else (
    fX2_index_b21 ln N M K   σ2))
def fX4_isValue_b31 (ln : Nat → Nat) (N M : Nat)   (σ : zSt) : Option (Int32 × zSt) :=
  some ((1 : Int32), σ)
def fX4_isValue (ln : Nat → Nat) (N M : Nat) (a1_ : Int32) (σ : zSt) : Option (Int32 × zSt) :=
  if a1_ < 0 then (
    some ((0 : Int32), σ))
  else (
    if (zI σ 4 5) ≤ a1_ then (
      some ((0 : Int32), σ))
    else (
      if a1_ < 0 ∨ (ln 17) ≤ a1_.toNatClampNeg then none else (
      if (zA σ 17 a1_.toNatClampNeg) = 0 then (
        fX4_isValue_b31 ln N M   σ)
      else (
        if a1_ < 0 ∨ (ln 17) ≤ a1_.toNatClampNeg then none else (
        if (zA σ 17 a1_.toNatClampNeg) = (3 : Int32) then (
          fX4_isValue_b31 ln N M   σ)
        else (
          some ((0 : Int32), σ)))))))
def fX1_inFrame (ln : Nat → Nat) (N M : Nat) (a1_ : Int32) (σ : zSt) : Option (Int32 × zSt) :=
  if 0 ≤ a1_ then (
    some (a1_ + (zI σ 3 5), σ))
  else (
    some ((a1_ + (2 : Int32)) + (zI σ 3 5), σ))
def fX2_variable (ln : Nat → Nat) (N M : Nat) (a1_ : Int32) (σ : zSt) : Option (Int32 × zSt) :=
  obd (fX4_placeOf ln N M a1_ σ) (fun r1 σ2 =>
  obd (fX4_isSort ln N M a1_ (3 : Int32) σ2) (fun r3 σ4 =>
  if r3 = 0 then (
    rbd (zR σ4 5 9) 13 14 (fun q5 =>
    obd (fX0_addWith ln N M q5 (2 : Int32) r1 σ4) (fun _ σ7 =>
    rbd (zR σ7 5 8) 11 12 (fun q8 =>
    obd (fX9_add ln N M q8 (2 : Int32) r1 (-1 : Int32) (-1 : Int32) σ7) (fun r9 σ10 =>
    some (r9, σ10))))))
  else (
    rbd (zR σ4 5 9) 13 14 (fun q11 =>
    obd (fX0_addWith ln N M q11 (4 : Int32) r1 σ4) (fun _ σ13 =>
    rbd (zR σ13 5 8) 11 12 (fun q14 =>
    obd (fX1_inFrame ln N M r1 σ13) (fun r15 σ16 =>
    obd (fX9_add ln N M q14 (3 : Int32) r15 (-1 : Int32) (-1 : Int32) σ16) (fun r17 σ18 =>
    some (r17, σ18)))))))))
def fX2_named_b157 (ln : Nat → Nat) (N M : Nat) (K : Int32 → zSt → Option (Int32 × zSt))  (x2_ : Int32) (σ : zSt) : Option (Int32 × zSt) :=
  obd (fX2_variable ln N M x2_ σ) (fun r10 σ11 =>
  some (r10, σ11))
def fX2_named_b37 (ln : Nat → Nat) (N M : Nat) (K : Int32 → zSt → Option (Int32 × zSt))  (x1_ : Int32) (x2_ : Int32) (σ : zSt) : Option (Int32 × zSt) :=
  obd (fX1_takeCells ln N M x1_ σ) (fun _ σ5 =>
  obd (fX7_come ln N M  σ5) (fun _ σ7 =>
  if (zI σ7 1 3) = (49 : Int32) then (
    obd (fX2_call ln N M K x2_ x1_ σ7) (fun r29 σ30 =>
    some (r29, σ30)))
  else (
    if (zI σ7 1 3) = (53 : Int32) then (
      obd (fX2_index ln N M K x2_ x1_ σ7) (fun r13 σ14 =>
      rbd (zR σ14 5 9) 13 14 (fun q15 =>
      obd (fX4_placeOf ln N M x2_ σ14) (fun r16 σ17 =>
      obd (fX4_countOf ln N M x2_ σ17) (fun r18 σ19 =>
      obd (fX0_addWithTwo ln N M q15 (6 : Int32) r16 r18 σ19) (fun _ σ21 =>
      rbd (zR σ21 5 8) 11 12 (fun q22 =>
      obd (fX4_placeOf ln N M x2_ σ21) (fun r23 σ24 =>
      obd (fX4_countOf ln N M x2_ σ24) (fun r25 σ26 =>
      obd (fX9_add ln N M q22 (4 : Int32) r23 r13 r25 σ26) (fun r27 σ28 =>
      some (r27, σ28)))))))))))
    else (
      obd (fX4_isValue ln N M x2_ σ7) (fun r8 σ9 =>
      if r8 = 0 then (
        bnd (zsI σ9 5 7 x1_) (fun σ12 =>
        fX2_named_b157 ln N M K  x2_ σ12))
      else (
        fX2_named_b157 ln N M K  x2_ σ9))))))
def fX2_named (ln : Nat → Nat) (N M : Nat) (K : Int32 → zSt → Option (Int32 × zSt))  (σ : zSt) : Option (Int32 × zSt) :=
  bnd (zI σ 1 4) (fun x1 =>
  obd (fX4_find ln N M (zL σ 1 5) (0 : Int32) σ) (fun r2 σ3 =>
  if 0 ≤ r2 then (
    fX2_named_b37 ln N M K  x1 r2 σ3)
  else (
    obd (fX7_fail ln N M (3 : Int32) x1 σ3) (fun _ σ32 =>
    fX2_named_b37 ln N M K  x1 r2 σ32))))
def fX2_reading (ln : Nat → Nat) (N M : Nat)  (σ : zSt) : Option (Int32 × zSt) :=
  obd (fX1_takeCells ln N M (zI σ 1 4) σ) (fun _ σ2 =>
  obd (fX7_come ln N M  σ2) (fun _ σ4 =>
  obd (fX7_need ln N M (49 : Int32) σ4) (fun _ σ6 =>
  obd (fX1_enter ln N M  σ6) (fun _ σ8 =>
  obd (fX7_come ln N M  σ8) (fun _ σ10 =>
  obd (fX7_need ln N M (50 : Int32) σ10) (fun _ σ12 =>
  obd (fX1_leave ln N M  σ12) (fun _ σ14 =>
  obd (fX7_come ln N M  σ14) (fun _ σ16 =>
  rbd (zR σ16 5 9) 13 14 (fun q17 =>
  obd (fX0_add ln N M q17 (35 : Int32) σ16) (fun _ σ19 =>
  rbd (zR σ19 5 8) 11 12 (fun q20 =>
  obd (fX9_add ln N M q20 (5 : Int32) (0 : Int32) (-1 : Int32) (-1 : Int32) σ19) (fun r21 σ22 =>
  some (r21, σ22)))))))))))))
def fX2_bracketed (ln : Nat → Nat) (N M : Nat) (K : Int32 → zSt → Option (Int32 × zSt))  (σ : zSt) : Option (Int32 × zSt) :=
  obd (fX7_need ln N M (49 : Int32) σ) (fun _ σ2 =>
  obd (fX1_enter ln N M  σ2) (fun _ σ4 =>
  obd (fX7_come ln N M  σ4) (fun _ σ6 =>
  obd (K (50 : Int32) σ6) (fun r7 σ8 =>
  obd (fX1_leave ln N M  σ8) (fun _ σ10 =>
  obd (fX7_come ln N M  σ10) (fun _ σ12 =>
  some (r7, σ12)))))))
def fX2_operand (ln : Nat → Nat) (N M : Nat) (K : Int32 → zSt → Option (Int32 × zSt))  (σ : zSt) : Option (Int32 × zSt) :=
  bnd (zI σ 1 3) (fun x1 =>
  if x1 = (40 : Int32) then (
    obd (fX2_named ln N M K  σ) (fun r2 σ3 =>
    some (r2, σ3)))
  else if x1 = (41 : Int32) then (
    obd (fX2_number ln N M  σ) (fun r4 σ5 =>
    some (r4, σ5)))
  else if x1 = (42 : Int32) then (
    obd (fX7_failHere ln N M (2 : Int32) σ) (fun _ σ7 =>
    some ((-1 : Int32), σ7)))
  else if x1 = (43 : Int32) then (
    obd (fX7_failHere ln N M (2 : Int32) σ) (fun _ σ9 =>
    some ((-1 : Int32), σ9)))
  else if x1 = (44 : Int32) then (
    obd (fX7_failHere ln N M (2 : Int32) σ) (fun _ σ11 =>
    some ((-1 : Int32), σ11)))
  else if x1 = (45 : Int32) then (
    obd (fX7_failHere ln N M (2 : Int32) σ) (fun _ σ13 =>
    some ((-1 : Int32), σ13)))
  else if x1 = (46 : Int32) then (
    obd (fX7_failHere ln N M (2 : Int32) σ) (fun _ σ15 =>
    some ((-1 : Int32), σ15)))
  else if x1 = (47 : Int32) then (
    obd (fX7_failHere ln N M (2 : Int32) σ) (fun _ σ17 =>
    some ((-1 : Int32), σ17)))
  else if x1 = (48 : Int32) then (
    obd (fX2_reading ln N M  σ) (fun r18 σ19 =>
    some (r18, σ19)))
  else if x1 = (49 : Int32) then (
    obd (fX2_bracketed ln N M K  σ) (fun r20 σ21 =>
    some (r20, σ21)))
  else (
    obd (fX7_failHere ln N M (2 : Int32) σ) (fun _ σ23 =>
    some ((-1 : Int32), σ23))))
def fX2_closeOnes_b10 (ln : Nat → Nat) (N M : Nat)  : Nat → Int32 → Int32 → Int32 → zSt → Option (Int32 × zSt)
  | 0, _, _, _, _ => none
  | n + 1, x2_, x3_, x4_, σ =>
    if x4_ < x2_ then (
      some (x3_, σ))
    else (
      if x4_ < 0 then (
        some (x3_, σ))
      else (
        if (nI (ln 21)) ≤ x4_ then (
          some (x3_, σ))
        else (
          if x4_ < 0 ∨ (ln 21) ≤ x4_.toNatClampNeg then none else (
          if (zA σ 21 x4_.toNatClampNeg) < (24 : Int32) then (
            some (x3_, σ))
          else (
            if x4_ < 0 ∨ (ln 21) ≤ x4_.toNatClampNeg then none else (
            if (zA σ 21 x4_.toNatClampNeg) ≤ (26 : Int32) then (
              rbd (zR σ 5 9) 13 14 (fun q2 =>
              if x4_ < 0 ∨ (ln 21) ≤ x4_.toNatClampNeg then none else (
              obd (fX0_add ln N M q2 (zA σ 21 x4_.toNatClampNeg) σ) (fun _ σ4 =>
              rbd (zR σ4 5 8) 11 12 (fun q5 =>
              if x4_ < 0 ∨ (ln 21) ≤ x4_.toNatClampNeg then none else (
              obd (fX9_add ln N M q5 (6 : Int32) (zA σ4 21 x4_.toNatClampNeg) x3_ (-1 : Int32) σ4) (fun r6 σ7 =>
              obd (fX1_leave ln N M  σ7) (fun _ σ9 =>
              bnd (zsI σ9 5 6 x4_) (fun σ10 =>
              bnd (x4_ + (-1 : Int32)) (fun x11 =>
              fX2_closeOnes_b10 ln N M  n x2_ r6 x11 σ10))))))))))
            else (
              some (x3_, σ))))))))
def fX2_closeOnes (ln : Nat → Nat) (N M : Nat) (a1_ : Int32) (a2_ : Int32) (σ : zSt) : Option (Int32 × zSt) :=
  bnd ((zI σ 5 6) - (1 : Int32)) (fun x1 =>
  fX2_closeOnes_b10 ln N M  N a2_ a1_ x1 σ)
def fX2_rankOf (ln : Nat → Nat) (N M : Nat) (a0_ : Int32) (σ : zSt) : Option (Int32 × zSt) :=
  if a0_ < 0 then (
    some ((0 : Int32), σ))
  else (
    if (29 : Int32) ≤ a0_ then (
      some ((0 : Int32), σ))
    else (
      if a0_ < 0 ∨ 29 ≤ a0_.toNatClampNeg then none else (
      some (zK_RANKS a0_.toNatClampNeg, σ))))
def fX2_settle_b60 (ln : Nat → Nat) (N M : Nat)   (σ : zSt) : Option (Unit × zSt) :=
  if (zI σ 5 7) < 0 then (
    some ((), σ))
  else (
    obd (fX7_fail ln N M (5 : Int32) (zI σ 5 7) σ) (fun _ σ2 =>
    bnd (zsI σ2 5 7 (-1 : Int32)) (fun σ3 =>
    some ((), σ3))))
def fX2_settle_b34 (ln : Nat → Nat) (N M : Nat)  (s0_ : Int32) (σ : zSt) : Option (Unit × zSt) :=
  if s0_ = 0 then (
    obd (fX2_rankOf ln N M (zI σ 1 3) σ) (fun r4 σ5 =>
    if r4 = 0 then (
      obd (fX7_failHere ln N M (2 : Int32) σ5) (fun _ σ7 =>
      fX2_settle_b60 ln N M   σ7))
    else (
      fX2_settle_b60 ln N M   σ5)))
  else (
    fX2_settle_b60 ln N M   σ)
def fX2_settle_b29 (ln : Nat → Nat) (N M : Nat)   (σ : zSt) : Option (Unit × zSt) :=
  fX2_settle_b34 ln N M  (1 : Int32) σ
def fX2_settle_b33 (ln : Nat → Nat) (N M : Nat)   (σ : zSt) : Option (Unit × zSt) :=
  fX2_settle_b34 ln N M  (0 : Int32) σ
def fX2_settle (ln : Nat → Nat) (N M : Nat) (a1_ : Int32) (σ : zSt) : Option (Unit × zSt) :=
  if (zI σ 1 3) = a1_ then (
    fX2_settle_b29 ln N M   σ)
  else (
    if a1_ = (55 : Int32) then (
      if (zI σ 1 3) = (50 : Int32) then (
        fX2_settle_b29 ln N M   σ)
      else (
        fX2_settle_b33 ln N M   σ))
    else (
      fX2_settle_b33 ln N M   σ))
def fX2_endChoice_b79 (ln : Nat → Nat) (N M : Nat)  (s0_ : Int32) (s1_ : Int32) (s2_ : Nat) (σ : zSt) : Option (Unit × zSt) :=
  obd (fX0_set ln N M s2_ s1_ s0_ σ) (fun _ σ19 =>
  some ((), σ19))
def fX2_endChoice (ln : Nat → Nat) (N M : Nat) (a1_ : Int32) (a2_ : Int32) (σ : zSt) : Option (Unit × zSt) :=
  rbd (zR σ 5 9) 13 14 (fun q1 =>
  bnd ((zI σ q1 1) + (6 : Int32)) (fun x2 =>
  rbd (zR σ 5 9) 13 14 (fun q3 =>
  bnd ((zI σ q3 1) + (8 : Int32)) (fun x4 =>
  rbd (zR σ 5 9) 13 14 (fun q5 =>
  obd (fX0_addWith ln N M q5 (31 : Int32) x2 σ) (fun _ σ7 =>
  rbd (zR σ7 5 9) 13 14 (fun q8 =>
  obd (fX0_addWith ln N M q8 (1 : Int32) (1 : Int32) σ7) (fun _ σ10 =>
  rbd (zR σ10 5 9) 13 14 (fun q11 =>
  obd (fX0_addWith ln N M q11 (30 : Int32) x4 σ10) (fun _ σ13 =>
  rbd (zR σ13 5 9) 13 14 (fun q14 =>
  obd (fX0_addWith ln N M q14 (1 : Int32) (0 : Int32) σ13) (fun _ σ16 =>
  rbd (zR σ16 5 9) 13 14 (fun q17 =>
  if a1_ = (8 : Int32) then (
    fX2_endChoice_b79 ln N M  x2 a2_ q17 σ16)
  else (
    fX2_endChoice_b79 ln N M  x4 a2_ q17 σ16))))))))))))))
def fX2_joinAll_b92 (ln : Nat → Nat) (N M : Nat) (k11 : Int32 → Int32 → Int32 → Int32 → zSt → Option (Int32 × zSt)) (x2_ : Int32) (x3_ : Int32) (x4_ : Int32) (x5_ : Int32) (x6_ : Int32) (σ : zSt) : Option (Int32 × zSt) :=
  rbd (zR σ 5 8) 11 12 (fun q7 =>
  if x5_ < 0 ∨ (ln 22) ≤ x5_.toNatClampNeg then none else (
  obd (fX9_add ln N M q7 (7 : Int32) x6_ (zA σ 22 x5_.toNatClampNeg) x4_ σ) (fun r8 σ9 =>
  bnd (zsI σ9 5 6 x5_) (fun σ10 =>
  bnd (x5_ + (-1 : Int32)) (fun x11 =>
  k11 x2_ x3_ r8 x11 σ10)))))
def fX2_joinAll_b67 (ln : Nat → Nat) (N M : Nat) (k11 : Int32 → Int32 → Int32 → Int32 → zSt → Option (Int32 × zSt)) (x2_ : Int32) (x3_ : Int32) (x4_ : Int32) (x5_ : Int32) (x6_ : Int32) (σ : zSt) : Option (Int32 × zSt) :=
  if x5_ < 0 ∨ (ln 23) ≤ x5_.toNatClampNeg then none else (
  obd (fX2_endChoice ln N M x6_ (zA σ 23 x5_.toNatClampNeg) σ) (fun _ σ6 =>
  fX2_joinAll_b92 ln N M k11 x2_ x3_ x4_ x5_ x6_ σ6))
def fX2_joinAll_b11 (ln : Nat → Nat) (N M : Nat)  : Nat → Int32 → Int32 → Int32 → Int32 → zSt → Option (Int32 × zSt)
  | 0, _, _, _, _, _ => none
  | n + 1, x2_, x3_, x4_, x5_, σ =>
    if x5_ < x2_ then (
      some (x4_, σ))
    else (
      if x5_ < 0 then (
        some (x4_, σ))
      else (
        if (nI (ln 21)) ≤ x5_ then (
          some (x4_, σ))
        else (
          if x5_ < 0 ∨ (ln 21) ≤ x5_.toNatClampNeg then none else (
          bnd (zA σ 21 x5_.toNatClampNeg) (fun x2 =>
          obd (fX2_rankOf ln N M x2 σ) (fun r3 σ4 =>
          if x3_ ≤ r3 then (
            if x2 = (8 : Int32) then (
              fX2_joinAll_b67 ln N M (fX2_joinAll_b11 ln N M  n) x2_ x3_ x4_ x5_ x2 σ4)
            else (
              if x2 = (9 : Int32) then (
                fX2_joinAll_b67 ln N M (fX2_joinAll_b11 ln N M  n) x2_ x3_ x4_ x5_ x2 σ4)
              else (
                rbd (zR σ4 5 9) 13 14 (fun q12 =>
                obd (fX0_add ln N M q12 x2 σ4) (fun _ σ14 =>
                fX2_joinAll_b92 ln N M (fX2_joinAll_b11 ln N M  n) x2_ x3_ x4_ x5_ x2 σ14)))))
          else (
            some (x4_, σ4))))))))
def fX2_joinAll (ln : Nat → Nat) (N M : Nat) (a1_ : Int32) (a2_ : Int32) (a3_ : Int32) (σ : zSt) : Option (Int32 × zSt) :=
  bnd ((zI σ 5 6) - (1 : Int32)) (fun x1 =>
  fX2_joinAll_b11 ln N M  N a2_ a3_ a1_ x1 σ)
def fX2_openTwo_b107 (ln : Nat → Nat) (N M : Nat)  (x1_ : Int32) (x2_ : Int32) (x3_ : Int32) (σ : zSt) : Option (Unit × zSt) :=
  obd (fX2_push ln N M x2_ x1_ x3_ σ) (fun _ σ6 =>
  some ((), σ6))
def fX2_openTwo (ln : Nat → Nat) (N M : Nat) (a1_ : Int32) (σ : zSt) : Option (Unit × zSt) :=
  bnd (zI σ 1 3) (fun x1 =>
  bnd (-1 : Int32) (fun x2 =>
  obd (fX1_takeCells ln N M (zI σ 1 4) σ) (fun _ σ4 =>
  if x1 = (8 : Int32) then (
    rbd (zR σ4 5 9) 13 14 (fun q19 =>
    obd (fX0_addWith ln N M q19 (31 : Int32) (0 : Int32) σ4) (fun _ σ21 =>
    rbd (zR σ21 5 9) 13 14 (fun q22 =>
    bnd ((zI σ21 q22 1) - (1 : Int32)) (fun x23 =>
    fX2_openTwo_b107 ln N M  a1_ x1 x23 σ21)))))
  else (
    if x1 = (9 : Int32) then (
      rbd (zR σ4 5 9) 13 14 (fun q7 =>
      rbd (zR σ4 5 9) 13 14 (fun q8 =>
      obd (fX0_addWith ln N M q7 (31 : Int32) ((zI σ4 q8 1) + (6 : Int32)) σ4) (fun _ σ10 =>
      rbd (zR σ10 5 9) 13 14 (fun q11 =>
      obd (fX0_addWith ln N M q11 (1 : Int32) (1 : Int32) σ10) (fun _ σ13 =>
      rbd (zR σ13 5 9) 13 14 (fun q14 =>
      obd (fX0_addWith ln N M q14 (30 : Int32) (0 : Int32) σ13) (fun _ σ16 =>
      rbd (zR σ16 5 9) 13 14 (fun q17 =>
      bnd ((zI σ16 q17 1) - (1 : Int32)) (fun x18 =>
      fX2_openTwo_b107 ln N M  a1_ x1 x18 σ16))))))))))
    else (
      fX2_openTwo_b107 ln N M  a1_ x1 x2 σ4)))))
def fX2_expression_b90 (ln : Nat → Nat) (N M : Nat) (K : Int32 → zSt → Option (Int32 × zSt))  (x2_ : Int32) (x3_ : Int32) (σ : zSt) : Option (Int32 × zSt) :=
  bnd (zsI σ 5 6 x2_) (fun σ4 =>
  some (x3_, σ4))
def fX2_expression_b10 (ln : Nat → Nat) (N M : Nat) (K : Int32 → zSt → Option (Int32 × zSt))  : Nat → Int32 → Int32 → Int32 → Int32 → zSt → Option (Int32 × zSt)
  | 0, _, _, _, _, _ => none
  | n + 1, x1_, x2_, x3_, x4_, σ =>
    if (zI σ 1 1) < x4_ then (
      fX2_expression_b90 ln N M K  x2_ x3_ σ)
    else (
      obd (fX2_openOnes ln N M  σ) (fun _ σ6 =>
      obd (fX2_operand ln N M K  σ6) (fun r7 σ8 =>
      obd (fX2_closeOnes ln N M r7 x2_ σ8) (fun r9 σ10 =>
      obd (fX2_settle ln N M x1_ σ10) (fun _ σ12 =>
      obd (fX2_rankOf ln N M (zI σ12 1 3) σ12) (fun r13 σ14 =>
      obd (fX2_joinAll ln N M r9 x2_ r13 σ14) (fun r15 σ16 =>
      if r13 = 0 then (
        fX2_expression_b90 ln N M K  x2_ r15 σ16)
      else (
        obd (fX2_openTwo ln N M r15 σ16) (fun _ σ18 =>
        obd (fX7_come ln N M  σ18) (fun _ σ20 =>
        bnd (x4_ + (1 : Int32)) (fun x21 =>
        fX2_expression_b10 ln N M K  n x1_ x2_ r15 x21 σ20)))))))))))
def fX2_expressionB (ln : Nat → Nat) (N M : Nat) (K : Int32 → zSt → Option (Int32 × zSt)) (a1_ : Int32) (σ : zSt) : Option (Int32 × zSt) :=
  bnd (zI σ 5 6) (fun x1 =>
  bnd (-1 : Int32) (fun x2 =>
  bnd (0 : Int32) (fun x3 =>
  fX2_expression_b10 ln N M K  N a1_ x1 x2 x3 σ)))
def fX2_expression (ln : Nat → Nat) (N M : Nat) : Nat → Int32 → zSt → Option (Int32 × zSt)
  | 0, _, _ => none
  | n + 1, a1_, σ => fX2_expressionB ln N M (fX2_expression ln N M n) a1_ σ
def fX6_local_b65 (ln : Nat → Nat) (N M : Nat)  (x2_ : Int64) (x4_ : Int32) (σ : zSt) : Option (Int32 × zSt) :=
  bnd (zI σ 2 8) (fun x10 =>
  rbd (zR σ 2 6) 13 14 (fun q11 =>
  obd (fX0_addWith ln N M q11 (5 : Int32) x10 σ) (fun _ σ13 =>
  obd (fX4_add ln N M x2_ (3 : Int32) x10 (0 : Int32) σ13) (fun _ σ15 =>
  bnd (zsI σ15 2 8 ((zI σ15 2 8) + (1 : Int32))) (fun σ16 =>
  bnd (zsI σ16 2 9 (if (zI σ16 2 9) < (zI σ16 2 8) then (zI σ16 2 8) else (zI σ16 2 9))) (fun σ17 =>
  obd (fX7_pass ln N M (56 : Int32) σ17) (fun _ σ19 =>
  rbd (zR σ19 2 5) 11 12 (fun q20 =>
  obd (fX1_inFrame ln N M x10 σ19) (fun r21 σ22 =>
  obd (fX9_add ln N M q20 (15 : Int32) r21 x4_ (-1 : Int32) σ22) (fun r23 σ24 =>
  some (r23, σ24)))))))))))
def fX6_local (ln : Nat → Nat) (N M : Nat) (a1_ : Int32) (σ : zSt) : Option (Int32 × zSt) :=
  obd (fX7_come ln N M  σ) (fun _ σ2 =>
  bnd (zL σ2 1 5) (fun x3 =>
  obd (fX6_toldName ln N M a1_ σ2) (fun _ σ5 =>
  bnd (-1 : Int32) (fun x6 =>
  if (zI σ5 1 3) = (57 : Int32) then (
    obd (fX7_come ln N M  σ5) (fun _ σ26 =>
    obd (fX2_expression ln N M M (56 : Int32) σ26) (fun r27 σ28 =>
    fX6_local_b65 ln N M  x3 r27 σ28)))
  else (
    rbd (zR σ5 2 6) 13 14 (fun q7 =>
    obd (fX0_addWith ln N M q7 (1 : Int32) (0 : Int32) σ5) (fun _ σ9 =>
    fX6_local_b65 ln N M  x3 x6 σ9)))))))
def fX6_block_b142 (ln : Nat → Nat) (N M : Nat) (K : zSt → Option (Int32 × zSt))  (x1_ : Int32) (x2_ : Int32) (x3_ : Int32) (σ : zSt) : Option (Int32 × zSt) :=
  obd (fX4_cutTo ln N M x1_ σ) (fun _ σ10 =>
  bnd (zsI σ10 2 8 x2_) (fun σ11 =>
  obd (fX1_leave ln N M  σ11) (fun _ σ13 =>
  obd (fX7_come ln N M  σ13) (fun _ σ15 =>
  some (x3_, σ15)))))
def fX6_block_b131 (ln : Nat → Nat) (N M : Nat) (K : zSt → Option (Int32 × zSt)) (k31 : Int32 → Int32 → Int32 → Int32 → Int32 → Int32 → zSt → Option (Int32 × zSt)) (x1_ : Int32) (x2_ : Int32) (x5_ : Int32) (x6_ : Int32) (x7_ : Int32) (s0_ : Int32) (σ : zSt) : Option (Int32 × zSt) :=
  bnd (x6_ + (1 : Int32)) (fun x21 =>
  k31 x1_ x2_ s0_ x7_ x5_ x21 σ)
def fX6_block_b107 (ln : Nat → Nat) (N M : Nat) (K : zSt → Option (Int32 × zSt)) (k31 : Int32 → Int32 → Int32 → Int32 → Int32 → Int32 → zSt → Option (Int32 × zSt)) (x1_ : Int32) (x2_ : Int32) (x3_ : Int32) (x4_ : Int32) (x5_ : Int32) (x6_ : Int32) (s0_ : Int32) (σ : zSt) : Option (Int32 × zSt) :=
  rbd (zR σ 2 5) 11 12 (fun q18 =>
  obd (fX9_setNext ln N M q18 x4_ s0_ σ) (fun _ σ20 =>
  if x6_ = 0 then (
    fX6_block_b131 ln N M K k31 x1_ x2_ x5_ x6_ s0_ s0_ σ20)
  else (
    fX6_block_b131 ln N M K k31 x1_ x2_ x5_ x6_ s0_ x3_ σ20)))
def fX6_block_b88 (ln : Nat → Nat) (N M : Nat) (K : zSt → Option (Int32 × zSt)) (k31 : Int32 → Int32 → Int32 → Int32 → Int32 → Int32 → zSt → Option (Int32 × zSt)) (x1_ : Int32) (x2_ : Int32) (x3_ : Int32) (x4_ : Int32) (x6_ : Int32) (s0_ : Int32) (σ : zSt) : Option (Int32 × zSt) :=
  if s0_ = 0 then (
    obd (K  σ) (fun r16 σ17 =>
    fX6_block_b107 ln N M K k31 x1_ x2_ x3_ x4_ s0_ x6_ r16 σ17))
  else (
    obd (fX6_local ln N M x1_ σ) (fun r22 σ23 =>
    fX6_block_b107 ln N M K k31 x1_ x2_ x3_ x4_ s0_ x6_ r22 σ23))
def fX6_block_b87 (ln : Nat → Nat) (N M : Nat) (K : zSt → Option (Int32 × zSt)) (k31 : Int32 → Int32 → Int32 → Int32 → Int32 → Int32 → zSt → Option (Int32 × zSt)) (x1_ : Int32) (x2_ : Int32) (x3_ : Int32) (x4_ : Int32) (x6_ : Int32) (σ : zSt) : Option (Int32 × zSt) :=
  fX6_block_b88 ln N M K k31 x1_ x2_ x3_ x4_ x6_ (0 : Int32) σ
def fX6_block_b31 (ln : Nat → Nat) (N M : Nat) (K : zSt → Option (Int32 × zSt))  : Nat → Int32 → Int32 → Int32 → Int32 → Int32 → Int32 → zSt → Option (Int32 × zSt)
  | 0, _, _, _, _, _, _, _ => none
  | n + 1, x1_, x2_, x3_, x4_, x5_, x6_, σ =>
    if (zI σ 1 1) < x6_ then (
      fX6_block_b142 ln N M K  x1_ x2_ x3_ σ)
    else (
      if (zI σ 1 3) = (52 : Int32) then (
        fX6_block_b142 ln N M K  x1_ x2_ x3_ σ)
      else (
        if (zI σ 1 3) = (-1 : Int32) then (
          fX6_block_b142 ln N M K  x1_ x2_ x3_ σ)
        else (
          if x5_ = 0 then (
            fX6_block_b87 ln N M K (fX6_block_b31 ln N M K  n) x1_ x2_ x3_ x4_ x6_ σ)
          else (
            if (zI σ 1 3) = (42 : Int32) then (
              fX6_block_b88 ln N M K (fX6_block_b31 ln N M K  n) x1_ x2_ x3_ x4_ x6_ (1 : Int32) σ)
            else (
              fX6_block_b87 ln N M K (fX6_block_b31 ln N M K  n) x1_ x2_ x3_ x4_ x6_ σ)))))
def fX6_block (ln : Nat → Nat) (N M : Nat) (K : zSt → Option (Int32 × zSt))  (σ : zSt) : Option (Int32 × zSt) :=
  bnd (zI σ 4 5) (fun x1 =>
  bnd (zI σ 2 8) (fun x2 =>
  bnd (-1 : Int32) (fun x3 =>
  bnd (-1 : Int32) (fun x4 =>
  bnd (1 : Int32) (fun x5 =>
  obd (fX7_come ln N M  σ) (fun _ σ7 =>
  bnd (0 : Int32) (fun x8 =>
  fX6_block_b31 ln N M K  N x1 x2 x3 x4 x5 x8 σ7)))))))
def fX9_setParts (ln : Nat → Nat) (N M : Nat) (q_ : Nat) (a1_ : Int32) (a2_ : Int32) (a3_ : Int32) (a4_ : Int32) (σ : zSt) : Option (Unit × zSt) :=
  if a1_ < 0 then (
    some ((), σ))
  else (
    if (zI σ q_ 6) ≤ a1_ then (
      some ((), σ))
    else (
      if a1_ < 0 ∨ (ln (6 * q_ - 31)) ≤ a1_.toNatClampNeg then none else (
      bnd (zsA σ (6 * q_ - 31) a1_.toNatClampNeg a2_) (fun σ1 =>
      if a1_ < 0 ∨ (ln (6 * q_ - 30)) ≤ a1_.toNatClampNeg then none else (
      bnd (zsA σ1 (6 * q_ - 30) a1_.toNatClampNeg a3_) (fun σ2 =>
      if a1_ < 0 ∨ (ln (6 * q_ - 29)) ≤ a1_.toNatClampNeg then none else (
      bnd (zsA σ2 (6 * q_ - 29) a1_.toNatClampNeg a4_) (fun σ3 =>
      some ((), σ3)))))))))
def fX6_choice_b138 (ln : Nat → Nat) (N M : Nat) (K : zSt → Option (Int32 × zSt))  (x1_ : Int32) (x2_ : Int32) (x3_ : Int32) (x4_ : Int32) (σ : zSt) : Option (Int32 × zSt) :=
  obd (fX1_leave ln N M  σ) (fun _ σ18 =>
  rbd (zR σ18 2 6) 13 14 (fun q19 =>
  rbd (zR σ18 2 6) 13 14 (fun q20 =>
  obd (fX0_set ln N M q19 x2_ (zI σ18 q20 1) σ18) (fun _ σ22 =>
  rbd (zR σ22 2 5) 11 12 (fun q23 =>
  obd (fX9_add ln N M q23 (10 : Int32) (0 : Int32) (-1 : Int32) (-1 : Int32) σ22) (fun r24 σ25 =>
  rbd (zR σ25 2 5) 11 12 (fun q26 =>
  obd (fX9_setParts ln N M q26 r24 x1_ x3_ x4_ σ25) (fun _ σ28 =>
  some (r24, σ28)))))))))
def fX6_choice (ln : Nat → Nat) (N M : Nat) (K : zSt → Option (Int32 × zSt))  (σ : zSt) : Option (Int32 × zSt) :=
  obd (fX1_enter ln N M  σ) (fun _ σ2 =>
  obd (fX1_takeCells ln N M (zI σ2 1 4) σ2) (fun _ σ4 =>
  obd (fX7_come ln N M  σ4) (fun _ σ6 =>
  obd (fX2_bracketed ln N M (fX2_expression ln N M M)  σ6) (fun r7 σ8 =>
  rbd (zR σ8 2 6) 13 14 (fun q9 =>
  obd (fX0_addWith ln N M q9 (31 : Int32) (0 : Int32) σ8) (fun _ σ11 =>
  rbd (zR σ11 2 6) 13 14 (fun q12 =>
  bnd ((zI σ11 q12 1) - (1 : Int32)) (fun x13 =>
  obd (K  σ11) (fun r14 σ15 =>
  bnd (-1 : Int32) (fun x16 =>
  if (zI σ15 1 3) = (44 : Int32) then (
    obd (fX1_enter ln N M  σ15) (fun _ σ30 =>
    obd (fX7_come ln N M  σ30) (fun _ σ32 =>
    rbd (zR σ32 2 6) 13 14 (fun q33 =>
    obd (fX0_addWith ln N M q33 (30 : Int32) (0 : Int32) σ32) (fun _ σ35 =>
    rbd (zR σ35 2 6) 13 14 (fun q36 =>
    rbd (zR σ35 2 6) 13 14 (fun q37 =>
    obd (fX0_set ln N M q36 x13 (zI σ35 q37 1) σ35) (fun _ σ39 =>
    rbd (zR σ39 2 6) 13 14 (fun q40 =>
    bnd ((zI σ39 q40 1) - (1 : Int32)) (fun x41 =>
    obd (K  σ39) (fun r42 σ43 =>
    obd (fX1_leave ln N M  σ43) (fun _ σ45 =>
    fX6_choice_b138 ln N M K  r7 x41 r14 r42 σ45))))))))))))
  else (
    fX6_choice_b138 ln N M K  r7 x13 r14 x16 σ15)))))))))))
def fX6_loop (ln : Nat → Nat) (N M : Nat) (K : zSt → Option (Int32 × zSt))  (σ : zSt) : Option (Int32 × zSt) :=
  obd (fX1_enter ln N M  σ) (fun _ σ2 =>
  obd (fX1_takeCells ln N M (zI σ2 1 4) σ2) (fun _ σ4 =>
  obd (fX7_come ln N M  σ4) (fun _ σ6 =>
  rbd (zR σ6 2 6) 13 14 (fun q7 =>
  bnd (zI σ6 q7 1) (fun x8 =>
  obd (fX2_bracketed ln N M (fX2_expression ln N M M)  σ6) (fun r9 σ10 =>
  rbd (zR σ10 2 6) 13 14 (fun q11 =>
  obd (fX0_addWith ln N M q11 (31 : Int32) (0 : Int32) σ10) (fun _ σ13 =>
  rbd (zR σ13 2 6) 13 14 (fun q14 =>
  bnd ((zI σ13 q14 1) - (1 : Int32)) (fun x15 =>
  obd (K  σ13) (fun r16 σ17 =>
  rbd (zR σ17 2 6) 13 14 (fun q18 =>
  obd (fX0_addWith ln N M q18 (30 : Int32) x8 σ17) (fun _ σ20 =>
  rbd (zR σ20 2 6) 13 14 (fun q21 =>
  rbd (zR σ20 2 6) 13 14 (fun q22 =>
  obd (fX0_set ln N M q21 x15 (zI σ20 q22 1) σ20) (fun _ σ24 =>
  obd (fX1_leave ln N M  σ24) (fun _ σ26 =>
  rbd (zR σ26 2 5) 11 12 (fun q27 =>
  obd (fX9_add ln N M q27 (11 : Int32) (0 : Int32) r9 r16 σ26) (fun r28 σ29 =>
  some (r28, σ29))))))))))))))))))))
def fX6_returning (ln : Nat → Nat) (N M : Nat)  (σ : zSt) : Option (Int32 × zSt) :=
  obd (fX1_takeCells ln N M (zI σ 1 4) σ) (fun _ σ2 =>
  obd (fX7_come ln N M  σ2) (fun _ σ4 =>
  obd (fX2_expression ln N M M (56 : Int32) σ4) (fun r5 σ6 =>
  obd (fX7_come ln N M  σ6) (fun _ σ8 =>
  rbd (zR σ8 2 6) 13 14 (fun q9 =>
  obd (fX0_addWith ln N M q9 (33 : Int32) (zI σ8 3 5) σ8) (fun _ σ11 =>
  rbd (zR σ11 2 5) 11 12 (fun q12 =>
  obd (fX9_add ln N M q12 (12 : Int32) (0 : Int32) r5 (-1 : Int32) σ11) (fun r13 σ14 =>
  some (r13, σ14)))))))))
def fX6_printing (ln : Nat → Nat) (N M : Nat)  (σ : zSt) : Option (Int32 × zSt) :=
  obd (fX1_takeCells ln N M (zI σ 1 4) σ) (fun _ σ2 =>
  obd (fX7_come ln N M  σ2) (fun _ σ4 =>
  obd (fX2_bracketed ln N M (fX2_expression ln N M M)  σ4) (fun r5 σ6 =>
  obd (fX7_pass ln N M (56 : Int32) σ6) (fun _ σ8 =>
  rbd (zR σ8 2 6) 13 14 (fun q9 =>
  obd (fX0_add ln N M q9 (34 : Int32) σ8) (fun _ σ11 =>
  rbd (zR σ11 2 5) 11 12 (fun q12 =>
  obd (fX9_add ln N M q12 (13 : Int32) (0 : Int32) r5 (-1 : Int32) σ11) (fun r13 σ14 =>
  some (r13, σ14)))))))))
def fX6_empty (ln : Nat → Nat) (N M : Nat)  (σ : zSt) : Option (Int32 × zSt) :=
  obd (fX1_takeCells ln N M (zI σ 1 4) σ) (fun _ σ2 =>
  obd (fX7_come ln N M  σ2) (fun _ σ4 =>
  rbd (zR σ4 2 5) 11 12 (fun q5 =>
  obd (fX9_add ln N M q5 (18 : Int32) (0 : Int32) (-1 : Int32) (-1 : Int32) σ4) (fun r6 σ7 =>
  some (r6, σ7)))))
def fX6_startName_b28 (ln : Nat → Nat) (N M : Nat)  (x1_ : Int32) (σ : zSt) : Option (Int32 × zSt) :=
  obd (fX1_takeCells ln N M (zI σ 1 4) σ) (fun _ σ4 =>
  obd (fX7_come ln N M  σ4) (fun _ σ6 =>
  some (x1_, σ6)))
def fX6_startName (ln : Nat → Nat) (N M : Nat)  (σ : zSt) : Option (Int32 × zSt) :=
  obd (fX4_find ln N M (zL σ 1 5) (0 : Int32) σ) (fun r1 σ2 =>
  if 0 ≤ r1 then (
    fX6_startName_b28 ln N M  r1 σ2)
  else (
    obd (fX7_failHere ln N M (3 : Int32) σ2) (fun _ σ8 =>
    fX6_startName_b28 ln N M  r1 σ8)))
def fX6_assignment_b20 (ln : Nat → Nat) (N M : Nat)  (x1_ : Int32) (σ : zSt) : Option (Int32 × zSt) :=
  obd (fX7_come ln N M  σ) (fun _ σ4 =>
  obd (fX2_expression ln N M M (56 : Int32) σ4) (fun r5 σ6 =>
  obd (fX7_come ln N M  σ6) (fun _ σ8 =>
  obd (fX4_placeOf ln N M x1_ σ8) (fun r9 σ10 =>
  obd (fX4_isSort ln N M x1_ (3 : Int32) σ10) (fun r11 σ12 =>
  if r11 = 0 then (
    rbd (zR σ12 2 6) 13 14 (fun q13 =>
    obd (fX0_addWith ln N M q13 (3 : Int32) r9 σ12) (fun _ σ15 =>
    rbd (zR σ15 2 5) 11 12 (fun q16 =>
    obd (fX9_add ln N M q16 (14 : Int32) r9 r5 (-1 : Int32) σ15) (fun r17 σ18 =>
    some (r17, σ18))))))
  else (
    rbd (zR σ12 2 6) 13 14 (fun q19 =>
    obd (fX0_addWith ln N M q19 (5 : Int32) r9 σ12) (fun _ σ21 =>
    rbd (zR σ21 2 5) 11 12 (fun q22 =>
    obd (fX1_inFrame ln N M r9 σ21) (fun r23 σ24 =>
    obd (fX9_add ln N M q22 (15 : Int32) r23 r5 (-1 : Int32) σ24) (fun r25 σ26 =>
    some (r25, σ26))))))))))))
def fX6_assignment (ln : Nat → Nat) (N M : Nat) (a1_ : Int32) (a2_ : Int32) (σ : zSt) : Option (Int32 × zSt) :=
  obd (fX4_isValue ln N M a1_ σ) (fun r1 σ2 =>
  if r1 = 0 then (
    obd (fX7_fail ln N M (5 : Int32) a2_ σ2) (fun _ σ28 =>
    fX6_assignment_b20 ln N M  a1_ σ28))
  else (
    fX6_assignment_b20 ln N M  a1_ σ2))
def fX6_itemAssignment (ln : Nat → Nat) (N M : Nat) (a1_ : Int32) (a2_ : Int32) (σ : zSt) : Option (Int32 × zSt) :=
  obd (fX2_index ln N M (fX2_expression ln N M M) a1_ a2_ σ) (fun r1 σ2 =>
  obd (fX7_pass ln N M (57 : Int32) σ2) (fun _ σ4 =>
  obd (fX2_expression ln N M M (56 : Int32) σ4) (fun r5 σ6 =>
  obd (fX7_come ln N M  σ6) (fun _ σ8 =>
  obd (fX4_placeOf ln N M a1_ σ8) (fun r9 σ10 =>
  obd (fX4_countOf ln N M a1_ σ10) (fun r11 σ12 =>
  rbd (zR σ12 2 6) 13 14 (fun q13 =>
  obd (fX0_addWithTwo ln N M q13 (7 : Int32) r9 r11 σ12) (fun _ σ15 =>
  rbd (zR σ15 2 5) 11 12 (fun q16 =>
  obd (fX9_add ln N M q16 (16 : Int32) r9 (-1 : Int32) (-1 : Int32) σ15) (fun r17 σ18 =>
  rbd (zR σ18 2 5) 11 12 (fun q19 =>
  obd (fX9_setParts ln N M q19 r17 r1 r11 r5 σ18) (fun _ σ21 =>
  some (r17, σ21)))))))))))))
def fX6_callAlone (ln : Nat → Nat) (N M : Nat) (a1_ : Int32) (a2_ : Int32) (σ : zSt) : Option (Int32 × zSt) :=
  obd (fX2_call ln N M (fX2_expression ln N M M) a1_ a2_ σ) (fun r1 σ2 =>
  obd (fX7_pass ln N M (56 : Int32) σ2) (fun _ σ4 =>
  rbd (zR σ4 2 6) 13 14 (fun q5 =>
  obd (fX0_add ln N M q5 (36 : Int32) σ4) (fun _ σ7 =>
  rbd (zR σ7 2 5) 11 12 (fun q8 =>
  obd (fX9_add ln N M q8 (17 : Int32) (0 : Int32) r1 (-1 : Int32) σ7) (fun r9 σ10 =>
  some (r9, σ10)))))))
def fX6_misplaced (ln : Nat → Nat) (N M : Nat)  (σ : zSt) : Option (Int32 × zSt) :=
  obd (fX7_failHere ln N M (2 : Int32) σ) (fun _ σ2 =>
  some ((-1 : Int32), σ2))
def fX6_statementB (ln : Nat → Nat) (N M : Nat) (K : zSt → Option (Int32 × zSt))  (σ : zSt) : Option (Int32 × zSt) :=
  bnd (zI σ 1 3) (fun x1 =>
  if x1 = (40 : Int32) then (
    bnd (zI σ 1 4) (fun x2 =>
    obd (fX6_startName ln N M  σ) (fun r3 σ4 =>
    bnd (zI σ4 1 3) (fun x5 =>
    if x5 = (49 : Int32) then (
      obd (fX6_callAlone ln N M r3 x2 σ4) (fun r6 σ7 =>
      some (r6, σ7)))
    else if x5 = (53 : Int32) then (
      obd (fX6_itemAssignment ln N M r3 x2 σ4) (fun r8 σ9 =>
      some (r8, σ9)))
    else if x5 = (57 : Int32) then (
      obd (fX6_assignment ln N M r3 x2 σ4) (fun r10 σ11 =>
      some (r10, σ11)))
    else (
      obd (fX6_misplaced ln N M  σ4) (fun r12 σ13 =>
      some (r12, σ13)))))))
  else if x1 = (41 : Int32) then (
    obd (fX6_misplaced ln N M  σ) (fun r14 σ15 =>
    some (r14, σ15)))
  else if x1 = (42 : Int32) then (
    obd (fX6_misplaced ln N M  σ) (fun r16 σ17 =>
    some (r16, σ17)))
  else if x1 = (43 : Int32) then (
    obd (fX6_choice ln N M K  σ) (fun r18 σ19 =>
    some (r18, σ19)))
  else if x1 = (44 : Int32) then (
    obd (fX6_misplaced ln N M  σ) (fun r20 σ21 =>
    some (r20, σ21)))
  else if x1 = (45 : Int32) then (
    obd (fX6_loop ln N M K  σ) (fun r22 σ23 =>
    some (r22, σ23)))
  else if x1 = (46 : Int32) then (
    obd (fX6_returning ln N M  σ) (fun r24 σ25 =>
    some (r24, σ25)))
  else if x1 = (47 : Int32) then (
    obd (fX6_printing ln N M  σ) (fun r26 σ27 =>
    some (r26, σ27)))
  else if x1 = (48 : Int32) then (
    obd (fX6_misplaced ln N M  σ) (fun r28 σ29 =>
    some (r28, σ29)))
  else if x1 = (49 : Int32) then (
    obd (fX6_misplaced ln N M  σ) (fun r30 σ31 =>
    some (r30, σ31)))
  else if x1 = (50 : Int32) then (
    obd (fX6_misplaced ln N M  σ) (fun r32 σ33 =>
    some (r32, σ33)))
  else if x1 = (51 : Int32) then (
    obd (fX1_enter ln N M  σ) (fun _ σ35 =>
    obd (fX1_takeCells ln N M (zI σ35 1 4) σ35) (fun _ σ37 =>
    rbd (zR σ37 2 5) 11 12 (fun q38 =>
    obd (fX6_block ln N M K  σ37) (fun r39 σ40 =>
    obd (fX9_add ln N M q38 (9 : Int32) (0 : Int32) r39 (-1 : Int32) σ40) (fun r41 σ42 =>
    some (r41, σ42)))))))
  else if x1 = (52 : Int32) then (
    obd (fX6_misplaced ln N M  σ) (fun r43 σ44 =>
    some (r43, σ44)))
  else if x1 = (53 : Int32) then (
    obd (fX6_misplaced ln N M  σ) (fun r45 σ46 =>
    some (r45, σ46)))
  else if x1 = (54 : Int32) then (
    obd (fX6_misplaced ln N M  σ) (fun r47 σ48 =>
    some (r47, σ48)))
  else if x1 = (55 : Int32) then (
    obd (fX6_misplaced ln N M  σ) (fun r49 σ50 =>
    some (r49, σ50)))
  else if x1 = (56 : Int32) then (
    obd (fX6_empty ln N M  σ) (fun r51 σ52 =>
    some (r51, σ52)))
  else (
    obd (fX6_misplaced ln N M  σ) (fun r53 σ54 =>
    some (r53, σ54))))
def fX6_statement (ln : Nat → Nat) (N M : Nat) : Nat → zSt → Option (Int32 × zSt)
  | 0, _ => none
  | n + 1, σ => fX6_statementB ln N M (fX6_statement ln N M n)  σ
def fX6_closeFunction (ln : Nat → Nat) (N M : Nat) (a1_ : Int32) (σ : zSt) : Option (Unit × zSt) :=
  rbd (zR σ 2 6) 13 14 (fun q1 =>
  obd (fX0_addWith ln N M q1 (1 : Int32) (0 : Int32) σ) (fun _ σ3 =>
  rbd (zR σ3 2 6) 13 14 (fun q4 =>
  obd (fX0_addWith ln N M q4 (33 : Int32) (zI σ3 3 5) σ3) (fun _ σ6 =>
  rbd (zR σ6 2 6) 13 14 (fun q7 =>
  obd (fX4_placeOf ln N M (zI σ6 2 7) σ6) (fun r8 σ9 =>
  obd (fX0_set ln N M q7 (r8 + (1 : Int32)) (zI σ9 2 9) σ9) (fun _ σ11 =>
  rbd (zR σ11 2 5) 11 12 (fun q12 =>
  obd (fX4_nodeOf ln N M (zI σ11 2 7) σ11) (fun r13 σ14 =>
  obd (fX9_setParts ln N M q12 r13 a1_ (zI σ14 2 9) (-1 : Int32) σ14) (fun _ σ16 =>
  obd (fX4_cutTo ln N M ((zI σ16 2 7) + (1 : Int32)) σ16) (fun _ σ18 =>
  some ((), σ18))))))))))))
def fX6_arraySize_b40 (ln : Nat → Nat) (N M : Nat)   (σ : zSt) : Option (Int32 × zSt) :=
  obd (fX7_failHere ln N M (11 : Int32) σ) (fun _ σ2 =>
  some ((0 : Int32), σ2))
def fX6_arraySize (ln : Nat → Nat) (N M : Nat)  (σ : zSt) : Option (Int32 × zSt) :=
  if (zI σ 1 3) = (41 : Int32) then (
    if (lg_cmp (zL σ 1 6) (1 : Int64)) < 0 then (
      fX6_arraySize_b40 ln N M   σ)
    else (
      if (lg_cmp (zL σ 1 6) (1000 : Int64)) ≤ 0 then (
        some ((zL σ 1 6).toInt32, σ))
      else (
        fX6_arraySize_b40 ln N M   σ)))
  else (
    some ((0 : Int32), σ))
def fX6_global_b50 (ln : Nat → Nat) (N M : Nat)  (x1_ : Int64) (x3_ : Int32) (x4_ : Int32) (σ : zSt) : Option (Unit × zSt) :=
  obd (fX7_pass ln N M (56 : Int32) σ) (fun _ σ4 =>
  rbd (zR σ4 2 4) 9 10 (fun q5 =>
  obd (fX4_add ln N M x1_ x3_ (zI σ4 q5 2) x4_ σ4) (fun _ σ7 =>
  rbd (zR σ7 2 4) 9 10 (fun q8 =>
  bnd (zsI σ7 q8 2 ((zI σ7 q8 2) + x4_)) (fun σ9 =>
  some ((), σ9))))))
def fX6_global (ln : Nat → Nat) (N M : Nat) (a1_ : Int64) (σ : zSt) : Option (Unit × zSt) :=
  bnd (0 : Int32) (fun x1 =>
  bnd (1 : Int32) (fun x2 =>
  if (zI σ 1 3) = (53 : Int32) then (
    bnd (1 : Int32) (fun x10 =>
    obd (fX7_come ln N M  σ) (fun _ σ12 =>
    obd (fX6_arraySize ln N M  σ12) (fun r13 σ14 =>
    obd (fX7_pass ln N M (41 : Int32) σ14) (fun _ σ16 =>
    obd (fX7_pass ln N M (54 : Int32) σ16) (fun _ σ18 =>
    fX6_global_b50 ln N M  a1_ x10 r13 σ18))))))
  else (
    fX6_global_b50 ln N M  a1_ x1 x2 σ)))
def fX0_fits (ln : Nat → Nat) (N M : Nat) (q_ : Nat)  (σ : zSt) : Option (Int32 × zSt) :=
  if (nI (ln (q_ + 32))) < (zI σ q_ 1) then (
    some ((0 : Int32), σ))
  else (
    some ((1 : Int32), σ))
def fX6_finish_b71 (ln : Nat → Nat) (N M : Nat)  (s0_ : Int32) (s1_ : Nat) (σ : zSt) : Option (Unit × zSt) :=
  if ¬ (s0_ = 0 ∨ s0_ = 1) then none else (
  bnd (zsI σ s1_ 4 s0_) (fun σ6 =>
  some ((), σ6)))
def fX6_finish_b52 (ln : Nat → Nat) (N M : Nat)   (σ : zSt) : Option (Unit × zSt) :=
  rbd (zR σ 2 4) 9 10 (fun q5 =>
  if (zI σ 1 7) = 0 then (
    fX6_finish_b71 ln N M  (1 : Int32) q5 σ)
  else (
    fX6_finish_b71 ln N M  (0 : Int32) q5 σ))
def fX6_finish_b26 (ln : Nat → Nat) (N M : Nat)   (σ : zSt) : Option (Unit × zSt) :=
  rbd (zR σ 2 6) 13 14 (fun q2 =>
  obd (fX0_fits ln N M q2  σ) (fun r3 σ4 =>
  if r3 = 0 then (
    obd (fX7_fail ln N M (10 : Int32) (zI σ4 1 1) σ4) (fun _ σ8 =>
    fX6_finish_b52 ln N M   σ8))
  else (
    fX6_finish_b52 ln N M   σ4)))
def fX6_finish (ln : Nat → Nat) (N M : Nat)  (σ : zSt) : Option (Unit × zSt) :=
  rbd (zR σ 2 4) 9 10 (fun q1 =>
  if 0 ≤ (zI σ q1 3) then (
    fX6_finish_b26 ln N M   σ)
  else (
    obd (fX7_fail ln N M (7 : Int32) (zI σ 1 1) σ) (fun _ σ10 =>
    fX6_finish_b26 ln N M   σ10)))
def fX6_readAll_b162 (ln : Nat → Nat) (N M : Nat)   (σ : zSt) : Option (Int32 × zSt) :=
  obd (fX7_need ln N M (58 : Int32) σ) (fun _ σ20 =>
  obd (fX6_finish ln N M  σ20) (fun _ σ22 =>
  some (zI σ22 1 7, σ22)))
def fX6_readAll_b156 (ln : Nat → Nat) (N M : Nat) (k68 : Int32 → zSt → Option (Int32 × zSt)) (x2_ : Int32) (σ : zSt) : Option (Int32 × zSt) :=
  bnd (x2_ + (1 : Int32)) (fun x31 =>
  k68 x31 σ)
def fX6_readAll_b68 (ln : Nat → Nat) (N M : Nat)  : Nat → Int32 → zSt → Option (Int32 × zSt)
  | 0, _, _ => none
  | n + 1, x2_, σ =>
    if (zI σ 1 1) < x2_ then (
      fX6_readAll_b162 ln N M   σ)
    else (
      if (zI σ 1 3) = (42 : Int32) then (
        obd (fX7_come ln N M  σ) (fun _ σ24 =>
        bnd (zI σ24 1 4) (fun x25 =>
        bnd (zL σ24 1 5) (fun x26 =>
        obd (fX6_toldName ln N M (0 : Int32) σ24) (fun _ σ28 =>
        if (zI σ28 1 3) = (49 : Int32) then (
          obd (fX6_openFunction ln N M x26 x25 σ28) (fun _ σ33 =>
          obd (fX6_block ln N M (fX6_statement ln N M M)  σ33) (fun r34 σ35 =>
          obd (fX6_closeFunction ln N M r34 σ35) (fun _ σ37 =>
          fX6_readAll_b156 ln N M (fX6_readAll_b68 ln N M  n) x2_ σ37))))
        else (
          obd (fX6_global ln N M x26 σ28) (fun _ σ30 =>
          fX6_readAll_b156 ln N M (fX6_readAll_b68 ln N M  n) x2_ σ30)))))))
      else (
        fX6_readAll_b162 ln N M   σ))
def fX6_readAll (ln : Nat → Nat) (N M : Nat) (a1_ : Nat) (σ : zSt) : Option (Int32 × zSt) :=
  bnd (zsR σ 2 4 (a1_ + 1)) (fun σ1 =>
  bnd (zsR σ1 2 5 ((a1_ + 2) + 1)) (fun σ2 =>
  bnd (zsR σ2 2 6 ((a1_ + 4) + 1)) (fun σ3 =>
  obd (fX5_clear ln N M a1_  σ3) (fun _ σ5 =>
  obd (fX1_begin ln N M  σ5) (fun _ σ7 =>
  obd (fX2_begin ln N M a1_ σ7) (fun _ σ9 =>
  obd (fX7_begin ln N M  σ9) (fun _ σ11 =>
  rbd (zR σ11 2 6) 13 14 (fun q12 =>
  obd (fX0_addWithTwo ln N M q12 (32 : Int32) (0 : Int32) (0 : Int32) σ11) (fun _ σ14 =>
  rbd (zR σ14 2 6) 13 14 (fun q15 =>
  obd (fX0_add ln N M q15 (0 : Int32) σ14) (fun _ σ17 =>
  bnd (0 : Int32) (fun x18 =>
  fX6_readAll_b68 ln N M  N x18 σ17))))))))))))
def fX8_rewind (ln : Nat → Nat) (N M : Nat)  (σ : zSt) : Option (Unit × zSt) :=
  bnd (zsI σ 6 3 (0 : Int32)) (fun σ1 =>
  bnd (zsI σ1 6 4 (0 : Int32)) (fun σ2 =>
  some ((), σ2)))
def fX11_beginAgain (ln : Nat → Nat) (N M : Nat)  (σ : zSt) : Option (Unit × zSt) :=
  obd (fX8_rewind ln N M  σ) (fun _ σ2 =>
  rbd (zR σ2 0 5) 9 10 (fun q3 =>
  obd (fX3_begin ln N M q3 σ2) (fun _ σ5 =>
  rbd (zR σ5 0 5) 9 10 (fun q6 =>
  obd (fX10_begin ln N M q6 σ5) (fun _ σ8 =>
  some ((), σ8))))))
def fX11_compile (ln : Nat → Nat) (N M : Nat)  (σ : zSt) : Option (Int32 × zSt) :=
  rbd (zR σ 0 6) 9 10 (fun q1 =>
  obd (fX6_readAll ln N M q1 σ) (fun r2 σ3 =>
  if r2 = 0 then (
    rbd (zR σ3 0 6) 9 10 (fun q4 =>
    rbd (zR σ3 0 5) 9 10 (fun q5 =>
    bnd (zsR σ3 0 6 (q5 + 1)) (fun σ6 =>
    bnd (zsR σ6 0 5 (q4 + 1)) (fun σ7 =>
    obd (fX11_beginAgain ln N M  σ7) (fun _ σ9 =>
    some ((0 : Int32), σ9)))))))
  else (
    some (r2, σ3))))
def fX8_putInput (ln : Nat → Nat) (N M : Nat) (a1_ : Int32) (σ : zSt) : Option (Int32 × zSt) :=
  if (zI σ 6 2) < (nI (ln 24)) then (
    if (zI σ 6 2) < 0 ∨ (ln 24) ≤ (zI σ 6 2).toNatClampNeg then none else (
    bnd (zsA σ 24 (zI σ 6 2).toNatClampNeg a1_) (fun σ1 =>
    bnd (zsI σ1 6 2 ((zI σ1 6 2) + (1 : Int32))) (fun σ2 =>
    some ((1 : Int32), σ2)))))
  else (
    some ((0 : Int32), σ))
def fX11_input (ln : Nat → Nat) (N M : Nat) (a1_ : Int32) (σ : zSt) : Option (Int32 × zSt) :=
  obd (fX8_putInput ln N M a1_ σ) (fun r1 σ2 =>
  if r1 = 0 then (
    some ((1 : Int32), σ2))
  else (
    some ((0 : Int32), σ2)))
def fX0_at (ln : Nat → Nat) (N M : Nat) (q_ : Nat) (a1_ : Int32) (σ : zSt) : Option (Int32 × zSt) :=
  if a1_ < 0 then (
    some ((-1 : Int32), σ))
  else (
    if (zI σ q_ 1) ≤ a1_ then (
      some ((-1 : Int32), σ))
    else (
      if (nI (ln (q_ + 32))) ≤ a1_ then (
        some ((-1 : Int32), σ))
      else (
        if a1_ < 0 ∨ (ln (q_ + 32)) ≤ a1_.toNatClampNeg then none else (
        some (zA σ (q_ + 32) a1_.toNatClampNeg, σ)))))
def fX3_load (ln : Nat → Nat) (N M : Nat) (a1_ : Int32) (σ : zSt) : Option (Int32 × zSt) :=
  if a1_ < 0 then (
    some ((0 : Int32), σ))
  else (
    if (nI (ln 26)) ≤ a1_ then (
      some ((0 : Int32), σ))
    else (
      if a1_ < 0 ∨ (ln 26) ≤ a1_.toNatClampNeg then none else (
      some (zA σ 26 a1_.toNatClampNeg, σ))))
def fX3_pop (ln : Nat → Nat) (N M : Nat)  (σ : zSt) : Option (Int32 × zSt) :=
  bnd (zsI σ 7 4 ((zI σ 7 4) - (1 : Int32))) (fun σ1 =>
  obd (fX3_load ln N M (zI σ1 7 4) σ1) (fun r2 σ3 =>
  some (r2, σ3)))
def fX11_ofOne (ln : Nat → Nat) (N M : Nat) (a0_ : Int32) (a1_ : Int32) (σ : zSt) : Option (Int32 × zSt) :=
  if a0_ = (24 : Int32) then (
    some (-a1_, σ))
  else (
    if a0_ = (25 : Int32) then (
      if a1_ = 0 then (
        some ((1 : Int32), σ))
      else (
        some ((0 : Int32), σ)))
    else (
      some (a1_ ^^^ (-1 : Int32), σ)))
def fX3_push_b42 (ln : Nat → Nat) (N M : Nat)   (σ : zSt) : Option (Unit × zSt) :=
  bnd (zsI σ 7 6 (4 : Int32)) (fun σ1 =>
  some ((), σ1))
def fX3_push (ln : Nat → Nat) (N M : Nat) (a1_ : Int32) (σ : zSt) : Option (Unit × zSt) :=
  if (zI σ 7 4) < 0 then (
    fX3_push_b42 ln N M   σ)
  else (
    if (nI (ln 26)) ≤ (zI σ 7 4) then (
      fX3_push_b42 ln N M   σ)
    else (
      if (zI σ 7 4) < 0 ∨ (ln 26) ≤ (zI σ 7 4).toNatClampNeg then none else (
      bnd (zsA σ 26 (zI σ 7 4).toNatClampNeg a1_) (fun σ2 =>
      bnd (zsI σ2 7 4 ((zI σ2 7 4) + (1 : Int32))) (fun σ3 =>
      some ((), σ3))))))
def fX11_dividesByZero_b12 (ln : Nat → Nat) (N M : Nat)  (x1_ : Int32) (σ : zSt) : Option (Int32 × zSt) :=
  if x1_ = 0 then (
    some ((1 : Int32), σ))
  else (
    some ((0 : Int32), σ))
def fX11_dividesByZero (ln : Nat → Nat) (N M : Nat) (a0_ : Int32) (a1_ : Int32) (σ : zSt) : Option (Int32 × zSt) :=
  if a0_ = (27 : Int32) then (
    fX11_dividesByZero_b12 ln N M  a1_ σ)
  else (
    if a0_ = (28 : Int32) then (
      fX11_dividesByZero_b12 ln N M  a1_ σ)
    else (
      some ((0 : Int32), σ)))
def fX11_compares (ln : Nat → Nat) (N M : Nat) (a0_ : Int32) (a1_ : Int32) (a2_ : Int32) (σ : zSt) : Option (Int32 × zSt) :=
  if a0_ = (13 : Int32) then (
    if a1_ = a2_ then (
      some ((1 : Int32), σ))
    else (
      some ((0 : Int32), σ)))
  else if a0_ = (14 : Int32) then (
    if a1_ = a2_ then (
      some ((0 : Int32), σ))
    else (
      some ((1 : Int32), σ)))
  else if a0_ = (15 : Int32) then (
    if a2_ ≤ a1_ then (
      some ((0 : Int32), σ))
    else (
      some ((1 : Int32), σ)))
  else if a0_ = (16 : Int32) then (
    if a2_ < a1_ then (
      some ((0 : Int32), σ))
    else (
      some ((1 : Int32), σ)))
  else if a0_ = (17 : Int32) then (
    if a1_ ≤ a2_ then (
      some ((0 : Int32), σ))
    else (
      some ((1 : Int32), σ)))
  else if a0_ = (18 : Int32) then (
    if a1_ < a2_ then (
      some ((0 : Int32), σ))
    else (
      some ((1 : Int32), σ)))
  else (
    some ((0 : Int32), σ))
def fX11_ofTwo (ln : Nat → Nat) (N M : Nat) (a0_ : Int32) (a1_ : Int32) (a2_ : Int32) (σ : zSt) : Option (Int32 × zSt) :=
  if a0_ = (10 : Int32) then (
    some (a1_ ||| a2_, σ))
  else if a0_ = (11 : Int32) then (
    some (a1_ ^^^ a2_, σ))
  else if a0_ = (12 : Int32) then (
    some (a1_ &&& a2_, σ))
  else if a0_ = (13 : Int32) then (
    obd (fX11_compares ln N M a0_ a1_ a2_ σ) (fun r1 σ2 =>
    if r1 = 0 then (
      some ((0 : Int32), σ2))
    else (
      some ((1 : Int32), σ2))))
  else if a0_ = (14 : Int32) then (
    obd (fX11_compares ln N M a0_ a1_ a2_ σ) (fun r3 σ4 =>
    if r3 = 0 then (
      some ((0 : Int32), σ4))
    else (
      some ((1 : Int32), σ4))))
  else if a0_ = (15 : Int32) then (
    obd (fX11_compares ln N M a0_ a1_ a2_ σ) (fun r5 σ6 =>
    if r5 = 0 then (
      some ((0 : Int32), σ6))
    else (
      some ((1 : Int32), σ6))))
  else if a0_ = (16 : Int32) then (
    obd (fX11_compares ln N M a0_ a1_ a2_ σ) (fun r7 σ8 =>
    if r7 = 0 then (
      some ((0 : Int32), σ8))
    else (
      some ((1 : Int32), σ8))))
  else if a0_ = (17 : Int32) then (
    obd (fX11_compares ln N M a0_ a1_ a2_ σ) (fun r9 σ10 =>
    if r9 = 0 then (
      some ((0 : Int32), σ10))
    else (
      some ((1 : Int32), σ10))))
  else if a0_ = (18 : Int32) then (
    obd (fX11_compares ln N M a0_ a1_ a2_ σ) (fun r11 σ12 =>
    if r11 = 0 then (
      some ((0 : Int32), σ12))
    else (
      some ((1 : Int32), σ12))))
  else if a0_ = (19 : Int32) then (
    some (a1_ <<< ((a2_ &&& (31 : Int32)) &&& 31), σ))
  else if a0_ = (20 : Int32) then (
    some (a1_ >>> ((a2_ &&& (31 : Int32)) &&& 31), σ))
  else if a0_ = (21 : Int32) then (
    some (a1_ + a2_, σ))
  else if a0_ = (22 : Int32) then (
    some (a1_ - a2_, σ))
  else if a0_ = (23 : Int32) then (
    some (a1_ * a2_, σ))
  else if a0_ = (24 : Int32) then (
    obd (fX11_compares ln N M a0_ a1_ a2_ σ) (fun r13 σ14 =>
    if r13 = 0 then (
      some ((0 : Int32), σ14))
    else (
      some ((1 : Int32), σ14))))
  else if a0_ = (25 : Int32) then (
    obd (fX11_compares ln N M a0_ a1_ a2_ σ) (fun r15 σ16 =>
    if r15 = 0 then (
      some ((0 : Int32), σ16))
    else (
      some ((1 : Int32), σ16))))
  else if a0_ = (26 : Int32) then (
    obd (fX11_compares ln N M a0_ a1_ a2_ σ) (fun r17 σ18 =>
    if r17 = 0 then (
      some ((0 : Int32), σ18))
    else (
      some ((1 : Int32), σ18))))
  else if a0_ = (27 : Int32) then (
    if a2_ = 0 then (
      some ((0 : Int32), σ))
    else (
      if a2_ = 0 then none else (
      some (a1_ / a2_, σ))))
  else if a0_ = (28 : Int32) then (
    if a2_ = 0 then (
      some ((0 : Int32), σ))
    else (
      if a2_ = 0 then none else (
      some (a1_ - a1_ / a2_ * a2_, σ))))
  else (
    obd (fX11_compares ln N M a0_ a1_ a2_ σ) (fun r19 σ20 =>
    if r19 = 0 then (
      some ((0 : Int32), σ20))
    else (
      some ((1 : Int32), σ20))))
def fX3_join (ln : Nat → Nat) (N M : Nat) (a1_ : Int32) (σ : zSt) : Option (Unit × zSt) :=
  obd (fX3_pop ln N M  σ) (fun r1 σ2 =>
  obd (fX3_pop ln N M  σ2) (fun r3 σ4 =>
  obd (fX11_dividesByZero ln N M a1_ r1 σ4) (fun r5 σ6 =>
  if r5 = 0 then (
    obd (fX11_ofTwo ln N M a1_ r3 r1 σ6) (fun r7 σ8 =>
    obd (fX3_push ln N M r7 σ8) (fun _ σ10 =>
    some ((), σ10))))
  else (
    bnd (zsI σ6 7 6 (2 : Int32)) (fun σ11 =>
    some ((), σ11))))))
def fX3_next (ln : Nat → Nat) (N M : Nat)  (σ : zSt) : Option (Int32 × zSt) :=
  bnd (zsI σ 7 3 ((zI σ 7 3) + (1 : Int32))) (fun σ1 =>
  rbd (zR σ1 7 2) 13 14 (fun q2 =>
  obd (fX0_at ln N M q2 ((zI σ1 7 3) - (1 : Int32)) σ1) (fun r3 σ4 =>
  some (r3, σ4))))
def fX3_call (ln : Nat → Nat) (N M : Nat) (a1_ : Int32) (σ : zSt) : Option (Unit × zSt) :=
  bnd (zsI σ 7 3 ((zI σ 7 3) + (1 : Int32))) (fun σ1 =>
  if (zI σ1 7 4) ≤ ((nI (ln 26)) - (2 : Int32)) then (
    obd (fX3_push ln N M (zI σ1 7 3) σ1) (fun _ σ3 =>
    obd (fX3_push ln N M (zI σ3 7 5) σ3) (fun _ σ5 =>
    bnd (zsI σ5 7 5 (zI σ5 7 4)) (fun σ6 =>
    bnd (zsI σ6 7 3 a1_) (fun σ7 =>
    some ((), σ7))))))
  else (
    bnd (zsI σ1 7 6 (4 : Int32)) (fun σ8 =>
    some ((), σ8))))
def fX3_leave (ln : Nat → Nat) (N M : Nat) (a1_ : Int32) (σ : zSt) : Option (Unit × zSt) :=
  obd (fX3_pop ln N M  σ) (fun r1 σ2 =>
  bnd (zI σ2 7 5) (fun x3 =>
  bnd (zsI σ2 7 4 ((x3 - (2 : Int32)) - a1_)) (fun σ4 =>
  obd (fX3_load ln N M (x3 - (2 : Int32)) σ4) (fun r5 σ6 =>
  bnd (zsI σ6 7 3 r5) (fun σ7 =>
  obd (fX3_load ln N M (x3 - (1 : Int32)) σ7) (fun r8 σ9 =>
  bnd (zsI σ9 7 5 r8) (fun σ10 =>
  obd (fX3_push ln N M r1 σ10) (fun _ σ12 =>
  some ((), σ12)))))))))
def fX8_putOutput (ln : Nat → Nat) (N M : Nat) (a1_ : Int32) (σ : zSt) : Option (Int32 × zSt) :=
  if (zI σ 6 4) < (nI (ln 25)) then (
    if (zI σ 6 4) < 0 ∨ (ln 25) ≤ (zI σ 6 4).toNatClampNeg then none else (
    bnd (zsA σ 25 (zI σ 6 4).toNatClampNeg a1_) (fun σ1 =>
    bnd (zsI σ1 6 4 ((zI σ1 6 4) + (1 : Int32))) (fun σ2 =>
    some ((1 : Int32), σ2)))))
  else (
    some ((0 : Int32), σ))
def fX3_comeOut_b21 (ln : Nat → Nat) (N M : Nat)  (s0_ : Int32) (σ : zSt) : Option (Unit × zSt) :=
  bnd (zsI σ 7 6 s0_) (fun σ5 =>
  some ((), σ5))
def fX3_comeOut (ln : Nat → Nat) (N M : Nat) (a1_ : Int32) (σ : zSt) : Option (Unit × zSt) :=
  obd (fX3_pop ln N M  σ) (fun r1 σ2 =>
  obd (fX8_putOutput ln N M r1 σ2) (fun r3 σ4 =>
  if r3 = 0 then (
    fX3_comeOut_b21 ln N M  (6 : Int32) σ4)
  else (
    fX3_comeOut_b21 ln N M  a1_ σ4)))
def fX8_hasInput (ln : Nat → Nat) (N M : Nat)  (σ : zSt) : Option (Int32 × zSt) :=
  if (zI σ 6 2) ≤ (zI σ 6 3) then (
    some ((0 : Int32), σ))
  else (
    if (nI (ln 24)) ≤ (zI σ 6 3) then (
      some ((0 : Int32), σ))
    else (
      some ((1 : Int32), σ)))
def fX8_nextInput (ln : Nat → Nat) (N M : Nat)  (σ : zSt) : Option (Int32 × zSt) :=
  if (zI σ 6 2) ≤ (zI σ 6 3) then (
    some ((0 : Int32), σ))
  else (
    if (zI σ 6 3) < (nI (ln 24)) then (
      bnd (zsI σ 6 3 ((zI σ 6 3) + (1 : Int32))) (fun σ1 =>
      if ((zI σ1 6 3) - (1 : Int32)) < 0 ∨ (ln 24) ≤ ((zI σ1 6 3) - (1 : Int32)).toNatClampNeg then none else (
      some (zA σ1 24 ((zI σ1 6 3) - (1 : Int32)).toNatClampNeg, σ1))))
    else (
      some ((0 : Int32), σ)))
def fX3_takeInput (ln : Nat → Nat) (N M : Nat)  (σ : zSt) : Option (Unit × zSt) :=
  obd (fX8_hasInput ln N M  σ) (fun r1 σ2 =>
  if r1 = 0 then (
    bnd (zsI σ2 7 6 (5 : Int32)) (fun σ3 =>
    some ((), σ3)))
  else (
    obd (fX8_nextInput ln N M  σ2) (fun r4 σ5 =>
    obd (fX3_push ln N M r4 σ5) (fun _ σ7 =>
    some ((), σ7)))))
def fX3_clear_b22 (ln : Nat → Nat) (N M : Nat)  : Nat → Int32 → Int32 → zSt → Option (Unit × zSt)
  | 0, _, _, _ => none
  | n + 1, x1_, x2_, σ =>
    if x1_ ≤ x2_ then (
      some ((), σ))
    else (
      obd (fX3_push ln N M (0 : Int32) σ) (fun _ σ3 =>
      bnd (x2_ + (1 : Int32)) (fun x4 =>
      fX3_clear_b22 ln N M  n x1_ x4 σ3)))
def fX3_clear (ln : Nat → Nat) (N M : Nat) (a1_ : Int32) (σ : zSt) : Option (Unit × zSt) :=
  if (zI σ 7 4) ≤ ((nI (ln 26)) - a1_) then (
    bnd (0 : Int32) (fun x1 =>
    fX3_clear_b22 ln N M  N a1_ x1 σ))
  else (
    bnd (zsI σ 7 6 (4 : Int32)) (fun σ5 =>
    some ((), σ5)))
def fX3_control_b80 (ln : Nat → Nat) (N M : Nat)  (s0_ : Int32) (σ : zSt) : Option (Unit × zSt) :=
  bnd (zsI σ 7 3 s0_) (fun σ8 =>
  some ((), σ8))
def fX3_control (ln : Nat → Nat) (N M : Nat) (a1_ : Int32) (σ : zSt) : Option (Unit × zSt) :=
  if a1_ = (30 : Int32) then (
    obd (fX3_next ln N M  σ) (fun r1 σ2 =>
    bnd (zsI σ2 7 3 r1) (fun σ3 =>
    some ((), σ3))))
  else if a1_ = (31 : Int32) then (
    obd (fX3_next ln N M  σ) (fun r4 σ5 =>
    obd (fX3_pop ln N M  σ5) (fun r6 σ7 =>
    if r6 = 0 then (
      fX3_control_b80 ln N M  r4 σ7)
    else (
      fX3_control_b80 ln N M  (zI σ7 7 3) σ7))))
  else if a1_ = (32 : Int32) then (
    obd (fX3_next ln N M  σ) (fun r9 σ10 =>
    obd (fX3_call ln N M r9 σ10) (fun _ σ12 =>
    some ((), σ12))))
  else if a1_ = (33 : Int32) then (
    obd (fX3_next ln N M  σ) (fun r13 σ14 =>
    obd (fX3_leave ln N M r13 σ14) (fun _ σ16 =>
    some ((), σ16))))
  else if a1_ = (34 : Int32) then (
    obd (fX3_comeOut ln N M (0 : Int32) σ) (fun _ σ18 =>
    some ((), σ18)))
  else if a1_ = (35 : Int32) then (
    obd (fX3_takeInput ln N M  σ) (fun _ σ20 =>
    some ((), σ20)))
  else if a1_ = (36 : Int32) then (
    obd (fX3_pop ln N M  σ) (fun r21 σ22 =>
    some ((), σ22)))
  else if a1_ = (37 : Int32) then (
    obd (fX3_next ln N M  σ) (fun r23 σ24 =>
    obd (fX3_clear ln N M r23 σ24) (fun _ σ26 =>
    some ((), σ26))))
  else (
    some ((), σ))
def fX3_store (ln : Nat → Nat) (N M : Nat) (a1_ : Int32) (a2_ : Int32) (σ : zSt) : Option (Unit × zSt) :=
  if a1_ < 0 then (
    some ((), σ))
  else (
    if (nI (ln 26)) ≤ a1_ then (
      some ((), σ))
    else (
      if a1_ < 0 ∨ (ln 26) ≤ a1_.toNatClampNeg then none else (
      bnd (zsA σ 26 a1_.toNatClampNeg a2_) (fun σ1 =>
      some ((), σ1)))))
def fX3_loadItem_b14 (ln : Nat → Nat) (N M : Nat)   (σ : zSt) : Option (Unit × zSt) :=
  bnd (zsI σ 7 6 (3 : Int32)) (fun σ3 =>
  some ((), σ3))
def fX3_loadItem (ln : Nat → Nat) (N M : Nat) (a1_ : Int32) (a2_ : Int32) (σ : zSt) : Option (Unit × zSt) :=
  obd (fX3_pop ln N M  σ) (fun r1 σ2 =>
  if r1 < 0 then (
    fX3_loadItem_b14 ln N M   σ2)
  else (
    if r1 < a2_ then (
      obd (fX3_load ln N M (a1_ + r1) σ2) (fun r4 σ5 =>
      obd (fX3_push ln N M r4 σ5) (fun _ σ7 =>
      some ((), σ7))))
    else (
      fX3_loadItem_b14 ln N M   σ2)))
def fX3_storeItem_b22 (ln : Nat → Nat) (N M : Nat)   (σ : zSt) : Option (Unit × zSt) :=
  bnd (zsI σ 7 6 (3 : Int32)) (fun σ5 =>
  some ((), σ5))
def fX3_storeItem (ln : Nat → Nat) (N M : Nat) (a1_ : Int32) (a2_ : Int32) (σ : zSt) : Option (Unit × zSt) :=
  obd (fX3_pop ln N M  σ) (fun r1 σ2 =>
  obd (fX3_pop ln N M  σ2) (fun r3 σ4 =>
  if r3 < 0 then (
    fX3_storeItem_b22 ln N M   σ4)
  else (
    if r3 < a2_ then (
      obd (fX3_store ln N M (a1_ + r3) r1 σ4) (fun _ σ7 =>
      some ((), σ7)))
    else (
      fX3_storeItem_b22 ln N M   σ4))))
def fX3_move (ln : Nat → Nat) (N M : Nat) (a1_ : Int32) (σ : zSt) : Option (Unit × zSt) :=
  if a1_ = (0 : Int32) then (
    obd (fX3_comeOut ln N M (1 : Int32) σ) (fun _ σ2 =>
    some ((), σ2)))
  else if a1_ = (1 : Int32) then (
    obd (fX3_next ln N M  σ) (fun r3 σ4 =>
    obd (fX3_push ln N M r3 σ4) (fun _ σ6 =>
    some ((), σ6))))
  else if a1_ = (2 : Int32) then (
    obd (fX3_next ln N M  σ) (fun r7 σ8 =>
    obd (fX3_load ln N M r7 σ8) (fun r9 σ10 =>
    obd (fX3_push ln N M r9 σ10) (fun _ σ12 =>
    some ((), σ12)))))
  else if a1_ = (3 : Int32) then (
    obd (fX3_next ln N M  σ) (fun r13 σ14 =>
    obd (fX3_pop ln N M  σ14) (fun r15 σ16 =>
    obd (fX3_store ln N M r13 r15 σ16) (fun _ σ18 =>
    some ((), σ18)))))
  else if a1_ = (4 : Int32) then (
    obd (fX3_next ln N M  σ) (fun r19 σ20 =>
    obd (fX3_load ln N M ((zI σ 7 5) + r19) σ20) (fun r21 σ22 =>
    obd (fX3_push ln N M r21 σ22) (fun _ σ24 =>
    some ((), σ24)))))
  else if a1_ = (5 : Int32) then (
    obd (fX3_next ln N M  σ) (fun r25 σ26 =>
    obd (fX3_pop ln N M  σ26) (fun r27 σ28 =>
    obd (fX3_store ln N M ((zI σ 7 5) + r25) r27 σ28) (fun _ σ30 =>
    some ((), σ30)))))
  else if a1_ = (6 : Int32) then (
    obd (fX3_next ln N M  σ) (fun r31 σ32 =>
    obd (fX3_next ln N M  σ32) (fun r33 σ34 =>
    obd (fX3_loadItem ln N M r31 r33 σ34) (fun _ σ36 =>
    some ((), σ36)))))
  else if a1_ = (7 : Int32) then (
    obd (fX3_next ln N M  σ) (fun r37 σ38 =>
    obd (fX3_next ln N M  σ38) (fun r39 σ40 =>
    obd (fX3_storeItem ln N M r37 r39 σ40) (fun _ σ42 =>
    some ((), σ42)))))
  else (
    some ((), σ))
def fX3_execute_b69 (ln : Nat → Nat) (N M : Nat)  (x1_ : Int32) (σ : zSt) : Option (Unit × zSt) :=
  if x1_ < (30 : Int32) then (
    obd (fX3_move ln N M x1_ σ) (fun _ σ6 =>
    some ((), σ6)))
  else (
    obd (fX3_control ln N M x1_ σ) (fun _ σ8 =>
    some ((), σ8)))
def fX3_execute_b49 (ln : Nat → Nat) (N M : Nat)  (x1_ : Int32) (σ : zSt) : Option (Unit × zSt) :=
  if x1_ < (10 : Int32) then (
    fX3_execute_b69 ln N M  x1_ σ)
  else (
    if (28 : Int32) < x1_ then (
      fX3_execute_b69 ln N M  x1_ σ)
    else (
      obd (fX3_join ln N M x1_ σ) (fun _ σ10 =>
      some ((), σ10))))
def fX3_execute (ln : Nat → Nat) (N M : Nat)  (σ : zSt) : Option (Unit × zSt) :=
  rbd (zR σ 7 2) 13 14 (fun q1 =>
  obd (fX0_at ln N M q1 (zI σ 7 3) σ) (fun r2 σ3 =>
  bnd (zsI σ3 7 3 ((zI σ3 7 3) + (1 : Int32))) (fun σ4 =>
  if r2 < (24 : Int32) then (
    fX3_execute_b49 ln N M  r2 σ4)
  else (
    if (26 : Int32) < r2 then (
      fX3_execute_b49 ln N M  r2 σ4)
    else (
      obd (fX3_pop ln N M  σ4) (fun r11 σ12 =>
      obd (fX11_ofOne ln N M r2 r11 σ12) (fun r13 σ14 =>
      obd (fX3_push ln N M r13 σ14) (fun _ σ16 =>
      some ((), σ16)))))))))
def fX3_goOn_b45 (ln : Nat → Nat) (N M : Nat) (k2 : Int32 → Int32 → zSt → Option (Int32 × zSt)) (x1_ : Int32) (x2_ : Int32) (σ : zSt) : Option (Int32 × zSt) :=
  bnd (zsI σ 7 7 (1 : Int32)) (fun σ4 =>
  bnd (x2_ + (1 : Int32)) (fun x5 =>
  k2 x1_ x5 σ4))
def fX3_goOn_b41 (ln : Nat → Nat) (N M : Nat) (k2 : Int32 → Int32 → zSt → Option (Int32 × zSt)) (x1_ : Int32) (x2_ : Int32) (σ : zSt) : Option (Int32 × zSt) :=
  obd (fX3_execute ln N M  σ) (fun _ σ3 =>
  fX3_goOn_b45 ln N M k2 x1_ x2_ σ3)
def fX3_goOn_b2 (ln : Nat → Nat) (N M : Nat)  : Nat → Int32 → Int32 → zSt → Option (Int32 × zSt)
  | 0, _, _, _ => none
  | n + 1, x1_, x2_, σ =>
    if x1_ ≤ x2_ then (
      some (zI σ 7 6, σ))
    else (
      if (zI σ 7 6) = 0 then (
        if (zI σ 7 7) = 0 then (
          if (zI σ 7 4) ≤ (nI (ln 26)) then (
            fX3_goOn_b41 ln N M (fX3_goOn_b2 ln N M  n) x1_ x2_ σ)
          else (
            bnd (zsI σ 7 6 (4 : Int32)) (fun σ6 =>
            fX3_goOn_b45 ln N M (fX3_goOn_b2 ln N M  n) x1_ x2_ σ6)))
        else (
          fX3_goOn_b41 ln N M (fX3_goOn_b2 ln N M  n) x1_ x2_ σ))
      else (
        some (zI σ 7 6, σ)))
def fX3_goOn (ln : Nat → Nat) (N M : Nat) (a1_ : Int32) (σ : zSt) : Option (Int32 × zSt) :=
  bnd (0 : Int32) (fun x1 =>
  fX3_goOn_b2 ln N M  N a1_ x1 σ)
def fX11_goOnMachine (ln : Nat → Nat) (N M : Nat) (a1_ : Int32) (σ : zSt) : Option (Int32 × zSt) :=
  rbd (zR σ 0 5) 9 10 (fun q1 =>
  if (zI σ q1 4) = 0 then (
    some ((-1 : Int32), σ))
  else (
    if (zI σ 8 15) = 0 then (
      obd (fX3_goOn ln N M a1_ σ) (fun r2 σ3 =>
      some (r2, σ3)))
    else (
      some ((-2 : Int32), σ))))
def fX11_step (ln : Nat → Nat) (N M : Nat)  (σ : zSt) : Option (Int32 × zSt) :=
  obd (fX11_goOnMachine ln N M (1 : Int32) σ) (fun r1 σ2 =>
  some (r1, σ2))
def fX11_run (ln : Nat → Nat) (N M : Nat) (a1_ : Int32) (σ : zSt) : Option (Int32 × zSt) :=
  obd (fX11_goOnMachine ln N M a1_ σ) (fun r1 σ2 =>
  some (r1, σ2))
def fX9_kindOf (ln : Nat → Nat) (N M : Nat) (q_ : Nat) (a1_ : Int32) (σ : zSt) : Option (Int32 × zSt) :=
  if a1_ < 0 then (
    some ((0 : Int32), σ))
  else (
    if (zI σ q_ 6) ≤ a1_ then (
      some ((0 : Int32), σ))
    else (
      if a1_ < 0 ∨ (ln (6 * q_ - 33)) ≤ a1_.toNatClampNeg then none else (
      some (zA σ (6 * q_ - 33) a1_.toNatClampNeg, σ))))
def fX9_aOf (ln : Nat → Nat) (N M : Nat) (q_ : Nat) (a1_ : Int32) (σ : zSt) : Option (Int32 × zSt) :=
  if a1_ < 0 then (
    some ((0 : Int32), σ))
  else (
    if (zI σ q_ 6) ≤ a1_ then (
      some ((0 : Int32), σ))
    else (
      if a1_ < 0 ∨ (ln (6 * q_ - 32)) ≤ a1_.toNatClampNeg then none else (
      some (zA σ (6 * q_ - 32) a1_.toNatClampNeg, σ))))
def fX10_pushValue (ln : Nat → Nat) (N M : Nat) (a1_ : Int32) (σ : zSt) : Option (Unit × zSt) :=
  if (zI σ 8 10) < 0 then (
    some ((), σ))
  else (
    if (nI (ln 27)) ≤ (zI σ 8 10) then (
      some ((), σ))
    else (
      if (zI σ 8 10) < 0 ∨ (ln 27) ≤ (zI σ 8 10).toNatClampNeg then none else (
      bnd (zsA σ 27 (zI σ 8 10).toNatClampNeg a1_) (fun σ1 =>
      bnd (zsI σ1 8 10 ((zI σ1 8 10) + (1 : Int32))) (fun σ2 =>
      some ((), σ2))))))
def fX10_globalAt (ln : Nat → Nat) (N M : Nat) (a1_ : Int32) (σ : zSt) : Option (Int32 × zSt) :=
  if a1_ < 0 then (
    some ((0 : Int32), σ))
  else (
    if (nI (ln 30)) ≤ a1_ then (
      some ((0 : Int32), σ))
    else (
      if a1_ < 0 ∨ (ln 30) ≤ a1_.toNatClampNeg then none else (
      some (zA σ 30 a1_.toNatClampNeg, σ))))
def fX10_cellOf (ln : Nat → Nat) (N M : Nat) (a1_ : Int32) (σ : zSt) : Option (Int32 × zSt) :=
  if (zI σ 8 12) ≤ 0 then (
    some ((-1 : Int32), σ))
  else (
    if (zI σ 8 12) ≤ (nI (ln 32)) then (
      if ((zI σ 8 12) - (1 : Int32)) < 0 ∨ (ln 32) ≤ ((zI σ 8 12) - (1 : Int32)).toNatClampNeg then none else (
      some ((zA σ 32 ((zI σ 8 12) - (1 : Int32)).toNatClampNeg) + a1_, σ)))
    else (
      some ((-1 : Int32), σ)))
def fX10_localAt (ln : Nat → Nat) (N M : Nat) (a1_ : Int32) (σ : zSt) : Option (Int32 × zSt) :=
  obd (fX10_cellOf ln N M a1_ σ) (fun r1 σ2 =>
  if r1 < 0 then (
    some ((0 : Int32), σ2))
  else (
    if (nI (ln 31)) ≤ r1 then (
      some ((0 : Int32), σ2))
    else (
      if r1 < 0 ∨ (ln 31) ≤ r1.toNatClampNeg then none else (
      some (zA σ2 31 r1.toNatClampNeg, σ2)))))
def fX10_takeInput (ln : Nat → Nat) (N M : Nat)  (σ : zSt) : Option (Unit × zSt) :=
  obd (fX8_hasInput ln N M  σ) (fun r1 σ2 =>
  if r1 = 0 then (
    bnd (zsI σ2 8 14 (5 : Int32)) (fun σ3 =>
    some ((), σ3)))
  else (
    obd (fX8_nextInput ln N M  σ2) (fun r4 σ5 =>
    obd (fX10_pushValue ln N M r4 σ5) (fun _ σ7 =>
    some ((), σ7)))))
def fX9_cOf (ln : Nat → Nat) (N M : Nat) (q_ : Nat) (a1_ : Int32) (σ : zSt) : Option (Int32 × zSt) :=
  if a1_ < 0 then (
    some ((-1 : Int32), σ))
  else (
    if (zI σ q_ 6) ≤ a1_ then (
      some ((-1 : Int32), σ))
    else (
      if a1_ < 0 ∨ (ln (6 * q_ - 30)) ≤ a1_.toNatClampNeg then none else (
      some (zA σ (6 * q_ - 30) a1_.toNatClampNeg, σ))))
def fX9_bOf (ln : Nat → Nat) (N M : Nat) (q_ : Nat) (a1_ : Int32) (σ : zSt) : Option (Int32 × zSt) :=
  if a1_ < 0 then (
    some ((-1 : Int32), σ))
  else (
    if (zI σ q_ 6) ≤ a1_ then (
      some ((-1 : Int32), σ))
    else (
      if a1_ < 0 ∨ (ln (6 * q_ - 31)) ≤ a1_.toNatClampNeg then none else (
      some (zA σ (6 * q_ - 31) a1_.toNatClampNeg, σ))))
def fX10_takeTwoApart_b45 (ln : Nat → Nat) (N M : Nat)  (x1_ : Int32) (σ : zSt) : Option (Unit × zSt) :=
  rbd (zR σ 8 8) 11 12 (fun q6 =>
  obd (fX9_bOf ln N M q6 x1_ σ) (fun r7 σ8 =>
  obd (fX10_pushItem ln N M (0 : Int32) r7 σ8) (fun _ σ10 =>
  some ((), σ10))))
def fX10_takeTwoApart (ln : Nat → Nat) (N M : Nat) (a1_ : Int32) (σ : zSt) : Option (Unit × zSt) :=
  obd (fX10_pushItem ln N M (1 : Int32) a1_ σ) (fun _ σ2 =>
  rbd (zR σ2 8 8) 11 12 (fun q3 =>
  obd (fX9_aOf ln N M q3 a1_ σ2) (fun r4 σ5 =>
  if r4 = (8 : Int32) then (
    fX10_takeTwoApart_b45 ln N M  a1_ σ5)
  else (
    rbd (zR σ5 8 8) 11 12 (fun q11 =>
    obd (fX9_aOf ln N M q11 a1_ σ5) (fun r12 σ13 =>
    if r12 = (9 : Int32) then (
      fX10_takeTwoApart_b45 ln N M  a1_ σ13)
    else (
      rbd (zR σ13 8 8) 11 12 (fun q14 =>
      obd (fX9_cOf ln N M q14 a1_ σ13) (fun r15 σ16 =>
      obd (fX10_pushItem ln N M (0 : Int32) r15 σ16) (fun _ σ18 =>
      fX10_takeTwoApart_b45 ln N M  a1_ σ18))))))))))
def fX9_has (ln : Nat → Nat) (N M : Nat) (q_ : Nat) (a1_ : Int32) (σ : zSt) : Option (Int32 × zSt) :=
  if a1_ < 0 then (
    some ((0 : Int32), σ))
  else (
    if (zI σ q_ 6) ≤ a1_ then (
      some ((0 : Int32), σ))
    else (
      some ((1 : Int32), σ)))
def fX9_nextOf (ln : Nat → Nat) (N M : Nat) (q_ : Nat) (a1_ : Int32) (σ : zSt) : Option (Int32 × zSt) :=
  if a1_ < 0 then (
    some ((-1 : Int32), σ))
  else (
    if (zI σ q_ 6) ≤ a1_ then (
      some ((-1 : Int32), σ))
    else (
      if a1_ < 0 ∨ (ln (6 * q_ - 28)) ≤ a1_.toNatClampNeg then none else (
      some (zA σ (6 * q_ - 28) a1_.toNatClampNeg, σ))))
def fX10_takeCallApart_b24 (ln : Nat → Nat) (N M : Nat)  : Nat → Int32 → Int32 → zSt → Option (Unit × zSt)
  | 0, _, _, _ => none
  | n + 1, x2_, x3_, σ =>
    if (8 : Int32) ≤ x3_ then (
      some ((), σ))
    else (
      rbd (zR σ 8 8) 11 12 (fun q10 =>
      obd (fX9_has ln N M q10 x2_ σ) (fun r11 σ12 =>
      if r11 = 0 then (
        some ((), σ12))
      else (
        obd (fX10_pushItem ln N M (0 : Int32) x2_ σ12) (fun _ σ14 =>
        rbd (zR σ14 8 8) 11 12 (fun q15 =>
        obd (fX9_nextOf ln N M q15 x2_ σ14) (fun r16 σ17 =>
        bnd (x3_ + (1 : Int32)) (fun x18 =>
        fX10_takeCallApart_b24 ln N M  n r16 x18 σ17))))))))
def fX10_takeCallApart (ln : Nat → Nat) (N M : Nat) (a1_ : Int32) (σ : zSt) : Option (Unit × zSt) :=
  rbd (zR σ 8 8) 11 12 (fun q1 =>
  obd (fX9_aOf ln N M q1 a1_ σ) (fun r2 σ3 =>
  obd (fX10_pushItem ln N M (3 : Int32) r2 σ3) (fun _ σ5 =>
  rbd (zR σ5 8 8) 11 12 (fun q6 =>
  obd (fX9_bOf ln N M q6 a1_ σ5) (fun r7 σ8 =>
  bnd (0 : Int32) (fun x9 =>
  fX10_takeCallApart_b24 ln N M  N r7 x9 σ8))))))
def fX10_openRow (ln : Nat → Nat) (N M : Nat) (a1_ : Int32) (σ : zSt) : Option (Unit × zSt) :=
  rbd (zR σ 8 8) 11 12 (fun q1 =>
  rbd (zR σ 8 8) 11 12 (fun q2 =>
  obd (fX9_bOf ln N M q2 a1_ σ) (fun r3 σ4 =>
  obd (fX9_has ln N M q1 r3 σ4) (fun r5 σ6 =>
  if r5 = 0 then (
    some ((), σ6))
  else (
    rbd (zR σ6 8 8) 11 12 (fun q7 =>
    obd (fX9_bOf ln N M q7 a1_ σ6) (fun r8 σ9 =>
    obd (fX10_pushItem ln N M (5 : Int32) r8 σ9) (fun _ σ11 =>
    some ((), σ11)))))))))
def fX10_setFrameCell (ln : Nat → Nat) (N M : Nat) (a1_ : Int32) (a2_ : Int32) (σ : zSt) : Option (Unit × zSt) :=
  if a1_ < 0 then (
    some ((), σ))
  else (
    if (nI (ln 31)) ≤ a1_ then (
      some ((), σ))
    else (
      if a1_ < 0 ∨ (ln 31) ≤ a1_.toNatClampNeg then none else (
      bnd (zsA σ 31 a1_.toNatClampNeg a2_) (fun σ1 =>
      some ((), σ1)))))
def fX10_setLocal (ln : Nat → Nat) (N M : Nat) (a1_ : Int32) (a2_ : Int32) (σ : zSt) : Option (Unit × zSt) :=
  obd (fX10_cellOf ln N M a1_ σ) (fun r1 σ2 =>
  obd (fX10_setFrameCell ln N M r1 a2_ σ2) (fun _ σ4 =>
  some ((), σ4)))
def fX10_takeLocalApart (ln : Nat → Nat) (N M : Nat) (a1_ : Int32) (σ : zSt) : Option (Unit × zSt) :=
  rbd (zR σ 8 8) 11 12 (fun q1 =>
  rbd (zR σ 8 8) 11 12 (fun q2 =>
  obd (fX9_bOf ln N M q2 a1_ σ) (fun r3 σ4 =>
  obd (fX9_has ln N M q1 r3 σ4) (fun r5 σ6 =>
  if r5 = 0 then (
    rbd (zR σ6 8 8) 11 12 (fun q7 =>
    obd (fX9_aOf ln N M q7 a1_ σ6) (fun r8 σ9 =>
    obd (fX10_setLocal ln N M r8 (0 : Int32) σ9) (fun _ σ11 =>
    some ((), σ11)))))
  else (
    obd (fX10_pushItem ln N M (1 : Int32) a1_ σ6) (fun _ σ13 =>
    rbd (zR σ13 8 8) 11 12 (fun q14 =>
    obd (fX9_bOf ln N M q14 a1_ σ13) (fun r15 σ16 =>
    obd (fX10_pushItem ln N M (0 : Int32) r15 σ16) (fun _ σ18 =>
    some ((), σ18))))))))))
def fX9_dOf (ln : Nat → Nat) (N M : Nat) (q_ : Nat) (a1_ : Int32) (σ : zSt) : Option (Int32 × zSt) :=
  if a1_ < 0 then (
    some ((-1 : Int32), σ))
  else (
    if (zI σ q_ 6) ≤ a1_ then (
      some ((-1 : Int32), σ))
    else (
      if a1_ < 0 ∨ (ln (6 * q_ - 29)) ≤ a1_.toNatClampNeg then none else (
      some (zA σ (6 * q_ - 29) a1_.toNatClampNeg, σ))))
def fX10_takeApart (ln : Nat → Nat) (N M : Nat) (a1_ : Int32) (σ : zSt) : Option (Unit × zSt) :=
  rbd (zR σ 8 8) 11 12 (fun q1 =>
  obd (fX9_kindOf ln N M q1 a1_ σ) (fun r2 σ3 =>
  if r2 = (1 : Int32) then (
    rbd (zR σ3 8 8) 11 12 (fun q4 =>
    obd (fX9_aOf ln N M q4 a1_ σ3) (fun r5 σ6 =>
    obd (fX10_pushValue ln N M r5 σ6) (fun _ σ8 =>
    some ((), σ8)))))
  else if r2 = (2 : Int32) then (
    rbd (zR σ3 8 8) 11 12 (fun q9 =>
    obd (fX9_aOf ln N M q9 a1_ σ3) (fun r10 σ11 =>
    obd (fX10_globalAt ln N M r10 σ11) (fun r12 σ13 =>
    obd (fX10_pushValue ln N M r12 σ13) (fun _ σ15 =>
    some ((), σ15))))))
  else if r2 = (3 : Int32) then (
    rbd (zR σ3 8 8) 11 12 (fun q16 =>
    obd (fX9_aOf ln N M q16 a1_ σ3) (fun r17 σ18 =>
    obd (fX10_localAt ln N M r17 σ18) (fun r19 σ20 =>
    obd (fX10_pushValue ln N M r19 σ20) (fun _ σ22 =>
    some ((), σ22))))))
  else if r2 = (4 : Int32) then (
    obd (fX10_pushItem ln N M (1 : Int32) a1_ σ3) (fun _ σ24 =>
    rbd (zR σ24 8 8) 11 12 (fun q25 =>
    obd (fX9_bOf ln N M q25 a1_ σ24) (fun r26 σ27 =>
    obd (fX10_pushItem ln N M (0 : Int32) r26 σ27) (fun _ σ29 =>
    some ((), σ29))))))
  else if r2 = (5 : Int32) then (
    obd (fX10_takeInput ln N M  σ3) (fun _ σ31 =>
    some ((), σ31)))
  else if r2 = (6 : Int32) then (
    obd (fX10_pushItem ln N M (1 : Int32) a1_ σ3) (fun _ σ33 =>
    rbd (zR σ33 8 8) 11 12 (fun q34 =>
    obd (fX9_bOf ln N M q34 a1_ σ33) (fun r35 σ36 =>
    obd (fX10_pushItem ln N M (0 : Int32) r35 σ36) (fun _ σ38 =>
    some ((), σ38))))))
  else if r2 = (7 : Int32) then (
    obd (fX10_takeTwoApart ln N M a1_ σ3) (fun _ σ40 =>
    some ((), σ40)))
  else if r2 = (8 : Int32) then (
    obd (fX10_takeCallApart ln N M a1_ σ3) (fun _ σ42 =>
    some ((), σ42)))
  else if r2 = (9 : Int32) then (
    obd (fX10_openRow ln N M a1_ σ3) (fun _ σ44 =>
    some ((), σ44)))
  else if r2 = (10 : Int32) then (
    obd (fX10_pushItem ln N M (1 : Int32) a1_ σ3) (fun _ σ46 =>
    rbd (zR σ46 8 8) 11 12 (fun q47 =>
    obd (fX9_bOf ln N M q47 a1_ σ46) (fun r48 σ49 =>
    obd (fX10_pushItem ln N M (0 : Int32) r48 σ49) (fun _ σ51 =>
    some ((), σ51))))))
  else if r2 = (11 : Int32) then (
    obd (fX10_pushItem ln N M (1 : Int32) a1_ σ3) (fun _ σ53 =>
    rbd (zR σ53 8 8) 11 12 (fun q54 =>
    obd (fX9_bOf ln N M q54 a1_ σ53) (fun r55 σ56 =>
    obd (fX10_pushItem ln N M (0 : Int32) r55 σ56) (fun _ σ58 =>
    some ((), σ58))))))
  else if r2 = (12 : Int32) then (
    obd (fX10_pushItem ln N M (1 : Int32) a1_ σ3) (fun _ σ60 =>
    rbd (zR σ60 8 8) 11 12 (fun q61 =>
    obd (fX9_bOf ln N M q61 a1_ σ60) (fun r62 σ63 =>
    obd (fX10_pushItem ln N M (0 : Int32) r62 σ63) (fun _ σ65 =>
    some ((), σ65))))))
  else if r2 = (13 : Int32) then (
    obd (fX10_pushItem ln N M (1 : Int32) a1_ σ3) (fun _ σ67 =>
    rbd (zR σ67 8 8) 11 12 (fun q68 =>
    obd (fX9_bOf ln N M q68 a1_ σ67) (fun r69 σ70 =>
    obd (fX10_pushItem ln N M (0 : Int32) r69 σ70) (fun _ σ72 =>
    some ((), σ72))))))
  else if r2 = (14 : Int32) then (
    obd (fX10_pushItem ln N M (1 : Int32) a1_ σ3) (fun _ σ74 =>
    rbd (zR σ74 8 8) 11 12 (fun q75 =>
    obd (fX9_bOf ln N M q75 a1_ σ74) (fun r76 σ77 =>
    obd (fX10_pushItem ln N M (0 : Int32) r76 σ77) (fun _ σ79 =>
    some ((), σ79))))))
  else if r2 = (15 : Int32) then (
    obd (fX10_takeLocalApart ln N M a1_ σ3) (fun _ σ81 =>
    some ((), σ81)))
  else if r2 = (16 : Int32) then (
    obd (fX10_pushItem ln N M (1 : Int32) a1_ σ3) (fun _ σ83 =>
    rbd (zR σ83 8 8) 11 12 (fun q84 =>
    obd (fX9_dOf ln N M q84 a1_ σ83) (fun r85 σ86 =>
    obd (fX10_pushItem ln N M (0 : Int32) r85 σ86) (fun _ σ88 =>
    rbd (zR σ88 8 8) 11 12 (fun q89 =>
    obd (fX9_bOf ln N M q89 a1_ σ88) (fun r90 σ91 =>
    obd (fX10_pushItem ln N M (0 : Int32) r90 σ91) (fun _ σ93 =>
    some ((), σ93)))))))))
  else if r2 = (17 : Int32) then (
    obd (fX10_pushItem ln N M (7 : Int32) a1_ σ3) (fun _ σ95 =>
    rbd (zR σ95 8 8) 11 12 (fun q96 =>
    obd (fX9_bOf ln N M q96 a1_ σ95) (fun r97 σ98 =>
    obd (fX10_pushItem ln N M (0 : Int32) r97 σ98) (fun _ σ100 =>
    some ((), σ100))))))
  else if r2 = (18 : Int32) then (
    some ((), σ3))
  else (
    obd (fX10_pushItem ln N M (1 : Int32) a1_ σ3) (fun _ σ102 =>
    rbd (zR σ102 8 8) 11 12 (fun q103 =>
    obd (fX9_bOf ln N M q103 a1_ σ102) (fun r104 σ105 =>
    obd (fX10_pushItem ln N M (0 : Int32) r104 σ105) (fun _ σ107 =>
    some ((), σ107))))))))
def fX10_popValue (ln : Nat → Nat) (N M : Nat)  (σ : zSt) : Option (Int32 × zSt) :=
  if (zI σ 8 10) ≤ 0 then (
    some ((0 : Int32), σ))
  else (
    if (zI σ 8 10) ≤ (nI (ln 27)) then (
      bnd (zsI σ 8 10 ((zI σ 8 10) - (1 : Int32))) (fun σ1 =>
      if (zI σ1 8 10) < 0 ∨ (ln 27) ≤ (zI σ1 8 10).toNatClampNeg then none else (
      some (zA σ1 27 (zI σ1 8 10).toNatClampNeg, σ1))))
    else (
      some ((0 : Int32), σ)))
def fX10_finishItem_b21 (ln : Nat → Nat) (N M : Nat)   (σ : zSt) : Option (Unit × zSt) :=
  bnd (zsI σ 8 14 (3 : Int32)) (fun σ3 =>
  some ((), σ3))
def fX10_finishItem (ln : Nat → Nat) (N M : Nat) (a1_ : Int32) (σ : zSt) : Option (Unit × zSt) :=
  obd (fX10_popValue ln N M  σ) (fun r1 σ2 =>
  if r1 < 0 then (
    fX10_finishItem_b21 ln N M   σ2)
  else (
    rbd (zR σ2 8 8) 11 12 (fun q4 =>
    obd (fX9_cOf ln N M q4 a1_ σ2) (fun r5 σ6 =>
    if r1 < r5 then (
      rbd (zR σ6 8 8) 11 12 (fun q7 =>
      obd (fX9_aOf ln N M q7 a1_ σ6) (fun r8 σ9 =>
      obd (fX10_globalAt ln N M (r8 + r1) σ9) (fun r10 σ11 =>
      obd (fX10_pushValue ln N M r10 σ11) (fun _ σ13 =>
      some ((), σ13))))))
    else (
      fX10_finishItem_b21 ln N M   σ6)))))
def fX10_finishFirst_b34 (ln : Nat → Nat) (N M : Nat)  (s0_ : Int32) (σ : zSt) : Option (Unit × zSt) :=
  obd (fX10_pushValue ln N M s0_ σ) (fun _ σ12 =>
  some ((), σ12))
def fX10_finishFirst_b18 (ln : Nat → Nat) (N M : Nat)  (x1_ : Int32) (x2_ : Int32) (s0_ : Int32) (σ : zSt) : Option (Unit × zSt) :=
  if x2_ = s0_ then (
    if x2_ = 0 then (
      fX10_finishFirst_b34 ln N M  (0 : Int32) σ)
    else (
      fX10_finishFirst_b34 ln N M  (1 : Int32) σ))
  else (
    obd (fX10_pushItem ln N M (2 : Int32) x1_ σ) (fun _ σ5 =>
    rbd (zR σ5 8 8) 11 12 (fun q6 =>
    obd (fX9_cOf ln N M q6 x1_ σ5) (fun r7 σ8 =>
    obd (fX10_pushItem ln N M (0 : Int32) r7 σ8) (fun _ σ10 =>
    some ((), σ10))))))
def fX10_finishFirst (ln : Nat → Nat) (N M : Nat) (a1_ : Int32) (a2_ : Int32) (σ : zSt) : Option (Unit × zSt) :=
  rbd (zR σ 8 8) 11 12 (fun q1 =>
  obd (fX9_aOf ln N M q1 a1_ σ) (fun r2 σ3 =>
  if r2 = (9 : Int32) then (
    fX10_finishFirst_b18 ln N M  a1_ a2_ (1 : Int32) σ3)
  else (
    fX10_finishFirst_b18 ln N M  a1_ a2_ (0 : Int32) σ3)))
def fX10_finishTwo_b37 (ln : Nat → Nat) (N M : Nat)  (s0_ : Int32) (s1_ : Int32) (σ : zSt) : Option (Unit × zSt) :=
  obd (fX10_finishFirst ln N M s1_ s0_ σ) (fun _ σ7 =>
  some ((), σ7))
def fX10_finishTwo_b26 (ln : Nat → Nat) (N M : Nat)  (x1_ : Int32) (x3_ : Int32) (σ : zSt) : Option (Unit × zSt) :=
  if x3_ = 0 then (
    fX10_finishTwo_b37 ln N M  (0 : Int32) x1_ σ)
  else (
    fX10_finishTwo_b37 ln N M  (1 : Int32) x1_ σ)
def fX10_finishTwo (ln : Nat → Nat) (N M : Nat) (a1_ : Int32) (σ : zSt) : Option (Unit × zSt) :=
  rbd (zR σ 8 8) 11 12 (fun q1 =>
  obd (fX9_aOf ln N M q1 a1_ σ) (fun r2 σ3 =>
  obd (fX10_popValue ln N M  σ3) (fun r4 σ5 =>
  if r2 = (8 : Int32) then (
    fX10_finishTwo_b26 ln N M  a1_ r4 σ5)
  else (
    if r2 = (9 : Int32) then (
      fX10_finishTwo_b26 ln N M  a1_ r4 σ5)
    else (
      obd (fX11_dividesByZero ln N M r2 r4 σ5) (fun r8 σ9 =>
      if r8 = 0 then (
        obd (fX10_popValue ln N M  σ9) (fun r10 σ11 =>
        obd (fX11_ofTwo ln N M r2 r10 r4 σ11) (fun r12 σ13 =>
        obd (fX10_pushValue ln N M r12 σ13) (fun _ σ15 =>
        some ((), σ15)))))
      else (
        bnd (zsI σ9 8 14 (2 : Int32)) (fun σ16 =>
        some ((), σ16)))))))))
def fX10_setGlobal (ln : Nat → Nat) (N M : Nat) (a1_ : Int32) (a2_ : Int32) (σ : zSt) : Option (Unit × zSt) :=
  if a1_ < 0 then (
    some ((), σ))
  else (
    if (nI (ln 30)) ≤ a1_ then (
      some ((), σ))
    else (
      if a1_ < 0 ∨ (ln 30) ≤ a1_.toNatClampNeg then none else (
      bnd (zsA σ 30 a1_.toNatClampNeg a2_) (fun σ1 =>
      some ((), σ1)))))
def fX10_finishSetItem_b26 (ln : Nat → Nat) (N M : Nat)   (σ : zSt) : Option (Unit × zSt) :=
  bnd (zsI σ 8 14 (3 : Int32)) (fun σ5 =>
  some ((), σ5))
def fX10_finishSetItem (ln : Nat → Nat) (N M : Nat) (a1_ : Int32) (σ : zSt) : Option (Unit × zSt) :=
  obd (fX10_popValue ln N M  σ) (fun r1 σ2 =>
  obd (fX10_popValue ln N M  σ2) (fun r3 σ4 =>
  if r3 < 0 then (
    fX10_finishSetItem_b26 ln N M   σ4)
  else (
    rbd (zR σ4 8 8) 11 12 (fun q6 =>
    obd (fX9_cOf ln N M q6 a1_ σ4) (fun r7 σ8 =>
    if r3 < r7 then (
      rbd (zR σ8 8 8) 11 12 (fun q9 =>
      obd (fX9_aOf ln N M q9 a1_ σ8) (fun r10 σ11 =>
      obd (fX10_setGlobal ln N M (r10 + r3) r1 σ11) (fun _ σ13 =>
      some ((), σ13)))))
    else (
      fX10_finishSetItem_b26 ln N M   σ8))))))
def fX10_dropFrame (ln : Nat → Nat) (N M : Nat)  (σ : zSt) : Option (Unit × zSt) :=
  if (zI σ 8 12) ≤ 0 then (
    some ((), σ))
  else (
    if (nI (ln 32)) < (zI σ 8 12) then (
      some ((), σ))
    else (
      bnd (zsI σ 8 12 ((zI σ 8 12) - (1 : Int32))) (fun σ1 =>
      if (zI σ1 8 12) < 0 ∨ (ln 32) ≤ (zI σ1 8 12).toNatClampNeg then none else (
      bnd (zsI σ1 8 13 (zA σ1 32 (zI σ1 8 12).toNatClampNeg)) (fun σ2 =>
      some ((), σ2))))))
def fX10_finishReturn_b45 (ln : Nat → Nat) (N M : Nat)   (σ : zSt) : Option (Unit × zSt) :=
  obd (fX10_dropFrame ln N M  σ) (fun _ σ3 =>
  some ((), σ3))
def fX10_finishReturn_b7 (ln : Nat → Nat) (N M : Nat)  : Nat → Int32 → zSt → Option (Unit × zSt)
  | 0, _, _ => none
  | n + 1, x1_, σ =>
    if x1_ < 0 then (
      fX10_finishReturn_b45 ln N M   σ)
    else (
      if (nI (ln 28)) ≤ x1_ then (
        fX10_finishReturn_b45 ln N M   σ)
      else (
        bnd (zsI σ 8 11 x1_) (fun σ4 =>
        if x1_ < 0 ∨ (ln 28) ≤ x1_.toNatClampNeg then none else (
        if (zA σ4 28 x1_.toNatClampNeg) = (6 : Int32) then (
          fX10_finishReturn_b45 ln N M   σ4)
        else (
          bnd (x1_ + (-1 : Int32)) (fun x5 =>
          fX10_finishReturn_b7 ln N M  n x5 σ4))))))
def fX10_finishReturn (ln : Nat → Nat) (N M : Nat)  (σ : zSt) : Option (Unit × zSt) :=
  bnd ((zI σ 8 11) - (1 : Int32)) (fun x1 =>
  fX10_finishReturn_b7 ln N M  N x1 σ)
def fX10_finishChoice_b26 (ln : Nat → Nat) (N M : Nat)  (s0_ : Int32) (σ : zSt) : Option (Unit × zSt) :=
  rbd (zR σ 8 8) 11 12 (fun q6 =>
  obd (fX9_has ln N M q6 s0_ σ) (fun r7 σ8 =>
  if r7 = 0 then (
    some ((), σ8))
  else (
    obd (fX10_pushItem ln N M (0 : Int32) s0_ σ8) (fun _ σ10 =>
    some ((), σ10)))))
def fX10_finishChoice (ln : Nat → Nat) (N M : Nat) (a1_ : Int32) (σ : zSt) : Option (Unit × zSt) :=
  obd (fX10_popValue ln N M  σ) (fun r1 σ2 =>
  if r1 = 0 then (
    rbd (zR σ2 8 8) 11 12 (fun q3 =>
    obd (fX9_dOf ln N M q3 a1_ σ2) (fun r4 σ5 =>
    fX10_finishChoice_b26 ln N M  r4 σ5)))
  else (
    rbd (zR σ2 8 8) 11 12 (fun q11 =>
    obd (fX9_cOf ln N M q11 a1_ σ2) (fun r12 σ13 =>
    fX10_finishChoice_b26 ln N M  r12 σ13))))
def fX10_finishLoop (ln : Nat → Nat) (N M : Nat) (a1_ : Int32) (σ : zSt) : Option (Unit × zSt) :=
  obd (fX10_popValue ln N M  σ) (fun r1 σ2 =>
  if r1 = 0 then (
    some ((), σ2))
  else (
    obd (fX10_pushItem ln N M (0 : Int32) a1_ σ2) (fun _ σ4 =>
    rbd (zR σ4 8 8) 11 12 (fun q5 =>
    obd (fX9_cOf ln N M q5 a1_ σ4) (fun r6 σ7 =>
    obd (fX10_pushItem ln N M (0 : Int32) r6 σ7) (fun _ σ9 =>
    some ((), σ9)))))))
def fX10_finish_b181 (ln : Nat → Nat) (N M : Nat)  (s0_ : Int32) (σ : zSt) : Option (Unit × zSt) :=
  bnd (zsI σ 8 14 s0_) (fun σ27 =>
  some ((), σ27))
def fX10_finish (ln : Nat → Nat) (N M : Nat) (a1_ : Int32) (σ : zSt) : Option (Unit × zSt) :=
  rbd (zR σ 8 8) 11 12 (fun q1 =>
  obd (fX9_kindOf ln N M q1 a1_ σ) (fun r2 σ3 =>
  if r2 = (4 : Int32) then (
    obd (fX10_finishItem ln N M a1_ σ3) (fun _ σ5 =>
    some ((), σ5)))
  else if r2 = (5 : Int32) then (
    some ((), σ3))
  else if r2 = (6 : Int32) then (
    rbd (zR σ3 8 8) 11 12 (fun q6 =>
    obd (fX9_aOf ln N M q6 a1_ σ3) (fun r7 σ8 =>
    obd (fX10_popValue ln N M  σ8) (fun r9 σ10 =>
    obd (fX11_ofOne ln N M r7 r9 σ10) (fun r11 σ12 =>
    obd (fX10_pushValue ln N M r11 σ12) (fun _ σ14 =>
    some ((), σ14)))))))
  else if r2 = (7 : Int32) then (
    obd (fX10_finishTwo ln N M a1_ σ3) (fun _ σ16 =>
    some ((), σ16)))
  else if r2 = (8 : Int32) then (
    some ((), σ3))
  else if r2 = (9 : Int32) then (
    some ((), σ3))
  else if r2 = (10 : Int32) then (
    obd (fX10_finishChoice ln N M a1_ σ3) (fun _ σ18 =>
    some ((), σ18)))
  else if r2 = (11 : Int32) then (
    obd (fX10_finishLoop ln N M a1_ σ3) (fun _ σ20 =>
    some ((), σ20)))
  else if r2 = (12 : Int32) then (
    obd (fX10_finishReturn ln N M  σ3) (fun _ σ22 =>
    some ((), σ22)))
  else if r2 = (13 : Int32) then (
    obd (fX10_popValue ln N M  σ3) (fun r23 σ24 =>
    obd (fX8_putOutput ln N M r23 σ24) (fun r25 σ26 =>
    if r25 = 0 then (
      fX10_finish_b181 ln N M  (6 : Int32) σ26)
    else (
      fX10_finish_b181 ln N M  (0 : Int32) σ26))))
  else if r2 = (14 : Int32) then (
    rbd (zR σ3 8 8) 11 12 (fun q28 =>
    obd (fX9_aOf ln N M q28 a1_ σ3) (fun r29 σ30 =>
    obd (fX10_popValue ln N M  σ30) (fun r31 σ32 =>
    obd (fX10_setGlobal ln N M r29 r31 σ32) (fun _ σ34 =>
    some ((), σ34))))))
  else if r2 = (15 : Int32) then (
    rbd (zR σ3 8 8) 11 12 (fun q35 =>
    obd (fX9_aOf ln N M q35 a1_ σ3) (fun r36 σ37 =>
    obd (fX10_popValue ln N M  σ37) (fun r38 σ39 =>
    obd (fX10_setLocal ln N M r36 r38 σ39) (fun _ σ41 =>
    some ((), σ41))))))
  else if r2 = (16 : Int32) then (
    obd (fX10_finishSetItem ln N M a1_ σ3) (fun _ σ43 =>
    some ((), σ43)))
  else (
    some ((), σ3))))
def fX10_openFrame (ln : Nat → Nat) (N M : Nat) (a1_ : Int32) (σ : zSt) : Option (Unit × zSt) :=
  if (zI σ 8 12) < 0 then (
    some ((), σ))
  else (
    if (nI (ln 32)) ≤ (zI σ 8 12) then (
      some ((), σ))
    else (
      if (zI σ 8 12) < 0 ∨ (ln 32) ≤ (zI σ 8 12).toNatClampNeg then none else (
      bnd (zsA σ 32 (zI σ 8 12).toNatClampNeg (zI σ 8 13)) (fun σ1 =>
      bnd (zsI σ1 8 12 ((zI σ1 8 12) + (1 : Int32))) (fun σ2 =>
      bnd (zsI σ2 8 13 ((zI σ2 8 13) + a1_)) (fun σ3 =>
      some ((), σ3)))))))
def fX10_enter_b54 (ln : Nat → Nat) (N M : Nat)   (σ : zSt) : Option (Unit × zSt) :=
  bnd (zsI σ 8 14 (4 : Int32)) (fun σ9 =>
  some ((), σ9))
def fX10_enter_b92 (ln : Nat → Nat) (N M : Nat)  : Nat → Int32 → Int32 → Int32 → zSt → Option (Unit × zSt)
  | 0, _, _, _, _ => none
  | n + 1, x1_, x3_, x4_, σ =>
    if x4_ < 0 then (
      obd (fX10_openFrame ln N M x3_ σ) (fun _ σ13 =>
      obd (fX10_pushItem ln N M (6 : Int32) x1_ σ13) (fun _ σ15 =>
      obd (fX10_pushItem ln N M (4 : Int32) x1_ σ15) (fun _ σ17 =>
      some ((), σ17)))))
    else (
      obd (fX10_popValue ln N M  σ) (fun r18 σ19 =>
      obd (fX10_setFrameCell ln N M ((zI σ 8 13) + x4_) r18 σ19) (fun _ σ21 =>
      bnd (x4_ + (-1 : Int32)) (fun x22 =>
      fX10_enter_b92 ln N M  n x1_ x3_ x22 σ21))))
def fX10_enter_b63 (ln : Nat → Nat) (N M : Nat)  : Nat → Int32 → Int32 → Int32 → Int32 → zSt → Option (Unit × zSt)
  | 0, _, _, _, _, _ => none
  | n + 1, x1_, x2_, x3_, x4_, σ =>
    if x3_ ≤ x4_ then (
      bnd (x2_ - (1 : Int32)) (fun x11 =>
      fX10_enter_b92 ln N M  N x1_ x3_ x11 σ))
    else (
      obd (fX10_setFrameCell ln N M ((zI σ 8 13) + x4_) (0 : Int32) σ) (fun _ σ24 =>
      bnd (x4_ + (1 : Int32)) (fun x25 =>
      fX10_enter_b63 ln N M  n x1_ x2_ x3_ x25 σ24)))
def fX10_enter (ln : Nat → Nat) (N M : Nat) (a1_ : Int32) (σ : zSt) : Option (Unit × zSt) :=
  rbd (zR σ 8 8) 11 12 (fun q1 =>
  obd (fX9_aOf ln N M q1 a1_ σ) (fun r2 σ3 =>
  bnd (if (0 : Int32) < r2 then r2 else (0 : Int32)) (fun x4 =>
  rbd (zR σ3 8 8) 11 12 (fun q5 =>
  obd (fX9_cOf ln N M q5 a1_ σ3) (fun r6 σ7 =>
  bnd (x4 + (if (0 : Int32) < r6 then r6 else (0 : Int32))) (fun x8 =>
  if ((nI (ln 31)) - (zI σ7 8 13)) < x8 then (
    fX10_enter_b54 ln N M   σ7)
  else (
    if (zI σ7 8 12) < (nI (ln 32)) then (
      bnd (0 : Int32) (fun x10 =>
      fX10_enter_b63 ln N M  N a1_ x4 x8 x10 σ7))
    else (
      fX10_enter_b54 ln N M   σ7))))))))
def fX10_goAlong_b31 (ln : Nat → Nat) (N M : Nat)  (x1_ : Int32) (σ : zSt) : Option (Unit × zSt) :=
  obd (fX10_pushItem ln N M (0 : Int32) x1_ σ) (fun _ σ8 =>
  some ((), σ8))
def fX10_goAlong (ln : Nat → Nat) (N M : Nat) (a1_ : Int32) (σ : zSt) : Option (Unit × zSt) :=
  rbd (zR σ 8 8) 11 12 (fun q1 =>
  rbd (zR σ 8 8) 11 12 (fun q2 =>
  obd (fX9_nextOf ln N M q2 a1_ σ) (fun r3 σ4 =>
  obd (fX9_has ln N M q1 r3 σ4) (fun r5 σ6 =>
  if r5 = 0 then (
    fX10_goAlong_b31 ln N M  a1_ σ6)
  else (
    rbd (zR σ6 8 8) 11 12 (fun q9 =>
    obd (fX9_nextOf ln N M q9 a1_ σ6) (fun r10 σ11 =>
    obd (fX10_pushItem ln N M (5 : Int32) r10 σ11) (fun _ σ13 =>
    fX10_goAlong_b31 ln N M  a1_ σ13))))))))
def fX10_takeItem_b137 (ln : Nat → Nat) (N M : Nat)  (s0_ : Int32) (σ : zSt) : Option (Unit × zSt) :=
  obd (fX10_pushValue ln N M s0_ σ) (fun _ σ11 =>
  some ((), σ11))
def fX10_takeItem (ln : Nat → Nat) (N M : Nat)  (σ : zSt) : Option (Unit × zSt) :=
  if (zI σ 8 11) ≤ 0 then (
    some ((), σ))
  else (
    if (nI (ln 28)) < (zI σ 8 11) then (
      some ((), σ))
    else (
      if (zI σ 8 11) ≤ (nI (ln 29)) then (
        bnd (zsI σ 8 11 ((zI σ 8 11) - (1 : Int32))) (fun σ1 =>
        if (zI σ1 8 11) < 0 ∨ (ln 29) ≤ (zI σ1 8 11).toNatClampNeg then none else (
        bnd (zA σ1 29 (zI σ1 8 11).toNatClampNeg) (fun x2 =>
        if (zI σ1 8 11) < 0 ∨ (ln 28) ≤ (zI σ1 8 11).toNatClampNeg then none else (
        bnd (zA σ1 28 (zI σ1 8 11).toNatClampNeg) (fun x3 =>
        if x3 = (0 : Int32) then (
          obd (fX10_takeApart ln N M x2 σ1) (fun _ σ5 =>
          some ((), σ5)))
        else if x3 = (1 : Int32) then (
          obd (fX10_finish ln N M x2 σ1) (fun _ σ7 =>
          some ((), σ7)))
        else if x3 = (2 : Int32) then (
          obd (fX10_popValue ln N M  σ1) (fun r8 σ9 =>
          if r8 = 0 then (
            fX10_takeItem_b137 ln N M  (0 : Int32) σ9)
          else (
            fX10_takeItem_b137 ln N M  (1 : Int32) σ9)))
        else if x3 = (3 : Int32) then (
          obd (fX10_enter ln N M x2 σ1) (fun _ σ13 =>
          some ((), σ13)))
        else if x3 = (4 : Int32) then (
          obd (fX10_openRow ln N M x2 σ1) (fun _ σ15 =>
          some ((), σ15)))
        else if x3 = (5 : Int32) then (
          obd (fX10_goAlong ln N M x2 σ1) (fun _ σ17 =>
          some ((), σ17)))
        else if x3 = (6 : Int32) then (
          obd (fX10_dropFrame ln N M  σ1) (fun _ σ19 =>
          obd (fX10_pushValue ln N M (0 : Int32) σ19) (fun _ σ21 =>
          some ((), σ21))))
        else if x3 = (7 : Int32) then (
          obd (fX10_popValue ln N M  σ1) (fun r22 σ23 =>
          some ((), σ23)))
        else (
          some ((), σ1))))))))
      else (
        some ((), σ))))
def fX10_lookAround_b62 (ln : Nat → Nat) (N M : Nat)  (s0_ : Int32) (σ : zSt) : Option (Unit × zSt) :=
  bnd (zsI σ 8 14 s0_) (fun σ5 =>
  some ((), σ5))
def fX10_lookAround (ln : Nat → Nat) (N M : Nat)  (σ : zSt) : Option (Unit × zSt) :=
  if (((zI σ 8 10) + (zI σ 8 11)) + (zI σ 8 13)) ≤ ((zI σ 8 0) - (zI σ 8 9)) then (
    if (zI σ 8 11) = 0 then (
      obd (fX10_popValue ln N M  σ) (fun r1 σ2 =>
      obd (fX8_putOutput ln N M r1 σ2) (fun r3 σ4 =>
      if r3 = 0 then (
        fX10_lookAround_b62 ln N M  (6 : Int32) σ4)
      else (
        fX10_lookAround_b62 ln N M  (1 : Int32) σ4))))
    else (
      some ((), σ)))
  else (
    bnd (zsI σ 8 14 (4 : Int32)) (fun σ6 =>
    some ((), σ6)))
def fX10_goOn_b34 (ln : Nat → Nat) (N M : Nat) (k2 : Int32 → Int32 → zSt → Option (Int32 × zSt)) (x1_ : Int32) (x2_ : Int32) (σ : zSt) : Option (Int32 × zSt) :=
  bnd (x2_ + (1 : Int32)) (fun x5 =>
  k2 x1_ x5 σ)
def fX10_goOn_b2 (ln : Nat → Nat) (N M : Nat)  : Nat → Int32 → Int32 → zSt → Option (Int32 × zSt)
  | 0, _, _, _ => none
  | n + 1, x1_, x2_, σ =>
    if x1_ ≤ x2_ then (
      some (zI σ 8 14, σ))
    else (
      if (zI σ 8 14) = 0 then (
        bnd (zsI σ 8 15 (1 : Int32)) (fun σ2 =>
        obd (fX10_takeItem ln N M  σ2) (fun _ σ4 =>
        if (zI σ4 8 14) = 0 then (
          obd (fX10_lookAround ln N M  σ4) (fun _ σ7 =>
          fX10_goOn_b34 ln N M (fX10_goOn_b2 ln N M  n) x1_ x2_ σ7))
        else (
          fX10_goOn_b34 ln N M (fX10_goOn_b2 ln N M  n) x1_ x2_ σ4))))
      else (
        some (zI σ 8 14, σ)))
def fX10_goOn (ln : Nat → Nat) (N M : Nat) (a1_ : Int32) (σ : zSt) : Option (Int32 × zSt) :=
  bnd (0 : Int32) (fun x1 =>
  fX10_goOn_b2 ln N M  N a1_ x1 σ)
def fX11_interpret (ln : Nat → Nat) (N M : Nat) (a1_ : Int32) (σ : zSt) : Option (Int32 × zSt) :=
  rbd (zR σ 0 5) 9 10 (fun q1 =>
  if (zI σ q1 4) = 0 then (
    some ((-1 : Int32), σ))
  else (
    if (zI σ 7 7) = 0 then (
      obd (fX10_goOn ln N M a1_ σ) (fun r2 σ3 =>
      some (r2, σ3)))
    else (
      some ((-2 : Int32), σ))))
def fX11_reset (ln : Nat → Nat) (N M : Nat)  (σ : zSt) : Option (Unit × zSt) :=
  obd (fX11_beginAgain ln N M  σ) (fun _ σ2 =>
  some ((), σ2))
def fX11_outSize (ln : Nat → Nat) (N M : Nat)  (σ : zSt) : Option (Int32 × zSt) :=
  some (zI σ 6 4, σ)
def fX8_outputAt (ln : Nat → Nat) (N M : Nat) (a1_ : Int32) (σ : zSt) : Option (Int32 × zSt) :=
  if a1_ < 0 then (
    some ((-1 : Int32), σ))
  else (
    if (zI σ 6 4) ≤ a1_ then (
      some ((-1 : Int32), σ))
    else (
      if (nI (ln 25)) ≤ a1_ then (
        some ((-1 : Int32), σ))
      else (
        if a1_ < 0 ∨ (ln 25) ≤ a1_.toNatClampNeg then none else (
        some (zA σ 25 a1_.toNatClampNeg, σ)))))
def fX11_out (ln : Nat → Nat) (N M : Nat) (a1_ : Int32) (σ : zSt) : Option (Int32 × zSt) :=
  obd (fX8_outputAt ln N M a1_ σ) (fun r1 σ2 =>
  some (r1, σ2))
def fX11_codeSize (ln : Nat → Nat) (N M : Nat)  (σ : zSt) : Option (Int32 × zSt) :=
  rbd (zR σ 0 5) 9 10 (fun q1 =>
  some (zI σ (q1 + 4) 1, σ))
def fX11_codeAt (ln : Nat → Nat) (N M : Nat) (a1_ : Int32) (σ : zSt) : Option (Int32 × zSt) :=
  rbd (zR σ 0 5) 9 10 (fun q1 =>
  obd (fX0_at ln N M (q1 + 4) a1_ σ) (fun r2 σ3 =>
  some (r2, σ3)))
