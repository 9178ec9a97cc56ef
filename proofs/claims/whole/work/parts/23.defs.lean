def fX12_cellsOf (N : Nat) (a0_ : Int32) (σ : zSt) : Option (Int32 × zSt) :=
  if 0 ≤ a0_ then (
    if a0_ ≤ (4096 : Int32) then (
      some (a0_, σ))
    else (
      some ((4096 : Int32), σ)))
  else (
    some ((0 : Int32), σ))
def fX12_feed (N : Nat) (a1_ : Int32) (σ : zSt) : Option (Int32 × zSt) :=
  if (zI σ 0 2) = (zI σ 0 1) then (
    some ((1 : Int32), σ))
  else (
    if (zI σ 0 2) < 0 ∨ 4096 ≤ (zI σ 0 2).toNatClampNeg then none else (
    bnd (zsA σ 1 (zI σ 0 2).toNatClampNeg a1_) (fun σ1 =>
    bnd (zsI σ1 0 2 ((zI σ1 0 2) + (1 : Int32))) (fun σ2 =>
    some ((0 : Int32), σ2)))))
def fX12_wordOf (N : Nat) (a0_ : Int32) (σ : zSt) : Option (Int64 × zSt) :=
  if a0_ = (0 : Int32) then (
    some ((6909556 : Int64), σ))
  else if a0_ = (1 : Int32) then (
    some ((26982 : Int64), σ))
  else if a0_ = (2 : Int32) then (
    some ((1701606245 : Int64), σ))
  else if a0_ = (3 : Int32) then (
    some ((512852847717 : Int64), σ))
  else if a0_ = (4 : Int32) then (
    some ((125780071117422 : Int64), σ))
  else if a0_ = (5 : Int32) then (
    some ((482955849332 : Int64), σ))
  else (
    some ((1919246692 : Int64), σ))
def fX12_isLetter_b30 (N : Nat)   (σ : zSt) : Option (Int32 × zSt) :=
  some ((1 : Int32), σ)
def fX12_isLetter_b24 (N : Nat)  (x0_ : Int32) (σ : zSt) : Option (Int32 × zSt) :=
  if x0_ = (95 : Int32) then (
    fX12_isLetter_b30 N   σ)
  else (
    some ((0 : Int32), σ))
def fX12_isLetter_b12 (N : Nat)  (x0_ : Int32) (σ : zSt) : Option (Int32 × zSt) :=
  if x0_ < (65 : Int32) then (
    fX12_isLetter_b24 N  x0_ σ)
  else (
    if x0_ ≤ (90 : Int32) then (
      fX12_isLetter_b30 N   σ)
    else (
      fX12_isLetter_b24 N  x0_ σ))
def fX12_isLetter (N : Nat) (a0_ : Int32) (σ : zSt) : Option (Int32 × zSt) :=
  if a0_ < (97 : Int32) then (
    fX12_isLetter_b12 N  a0_ σ)
  else (
    if a0_ ≤ (122 : Int32) then (
      fX12_isLetter_b30 N   σ)
    else (
      fX12_isLetter_b12 N  a0_ σ))
def fX12_isDigit (N : Nat) (a0_ : Int32) (σ : zSt) : Option (Int32 × zSt) :=
  if a0_ < (48 : Int32) then (
    some ((0 : Int32), σ))
  else (
    if (57 : Int32) < a0_ then (
      some ((0 : Int32), σ))
    else (
      some ((1 : Int32), σ)))
def fX12_see (N : Nat) (a1_ : Int32) (σ : zSt) : Option (Int32 × zSt) :=
  if (zI σ 0 16) ≤ a1_ then (
    some ((-1 : Int32), σ))
  else (
    if a1_ < 0 ∨ 4096 ≤ a1_.toNatClampNeg then none else (
    some (zA σ 6 a1_.toNatClampNeg, σ)))
def fX12_name_b162 (N : Nat) (k125 : Int32 → zSt → Option (Unit × zSt)) (x1_ : Int32) (σ : zSt) : Option (Unit × zSt) :=
  bnd (x1_ + (1 : Int32)) (fun x6 =>
  k125 x6 σ)
def fX12_name_b125 (N : Nat)  : Nat → Int32 → zSt → Option (Unit × zSt)
  | 0, _, _ => none
  | n + 1, x1_, σ =>
    if (7 : Int32) ≤ x1_ then (
      some ((), σ))
    else (
      if (zI σ 0 19) = (1 : Int32) then (
        obd (fX12_wordOf N x1_ σ) (fun r4 σ5 =>
        if (lg_cmp r4 (zL σ5 0 20)) = 0 then (
          bnd (zsI σ5 0 19 (3 : Int32)) (fun σ7 =>
          bnd (zsL σ7 0 20 (x1_.toInt64)) (fun σ8 =>
          fX12_name_b162 N (fX12_name_b125 N  n) x1_ σ8)))
        else (
          fX12_name_b162 N (fX12_name_b125 N  n) x1_ σ5)))
      else (
        some ((), σ)))
def fX12_name_b123 (N : Nat)   (σ : zSt) : Option (Unit × zSt) :=
  bnd (0 : Int32) (fun x3 =>
  fX12_name_b125 N  N x3 σ)
def fX12_name_b82 (N : Nat)  : Nat → Int32 → zSt → Option (Unit × zSt)
  | 0, _, _ => none
  | n + 1, x1_, σ =>
    if (zI σ 0 17) ≤ x1_ then (
      fX12_name_b123 N   σ)
    else (
      if (zI σ 0 19) = (1 : Int32) then (
        if x1_ < 0 ∨ 4096 ≤ x1_.toNatClampNeg then none else (
        bnd (zsL σ 0 20 (((zL σ 0 20) <<< ((8 : Int32).toInt64 &&& 63)) ||| ((zA σ 6 x1_.toNatClampNeg).toInt64))) (fun σ9 =>
        bnd (x1_ + (1 : Int32)) (fun x10 =>
        fX12_name_b82 N  n x10 σ9))))
      else (
        fX12_name_b123 N   σ))
def fX12_name_b74 (N : Nat)  (s0_ : Int32) (σ : zSt) : Option (Unit × zSt) :=
  bnd (zsI σ 0 19 s0_) (fun σ1 =>
  bnd (zI σ1 0 18) (fun x2 =>
  fX12_name_b82 N  N x2 σ1))
def fX12_name_b54 (N : Nat)   (σ : zSt) : Option (Unit × zSt) :=
  if (8 : Int32) < ((zI σ 0 17) - (zI σ 0 18)) then (
    fX12_name_b74 N  (5 : Int32) σ)
  else (
    fX12_name_b74 N  (1 : Int32) σ)
def fX12_name_b41 (N : Nat) (k0 : zSt → Option (Unit × zSt))  (σ : zSt) : Option (Unit × zSt) :=
  bnd (zsI σ 0 17 ((zI σ 0 17) + (1 : Int32))) (fun σ13 =>
  k0  σ13)
def fX12_name_b0 (N : Nat)  : Nat → zSt → Option (Unit × zSt)
  | 0, _ => none
  | n + 1, σ =>
    if (zI σ 0 16) ≤ (zI σ 0 17) then (
      fX12_name_b54 N   σ)
    else (
      if (zI σ 0 17) < 0 ∨ 4096 ≤ (zI σ 0 17).toNatClampNeg then none else (
      obd (fX12_isLetter N (zA σ 6 (zI σ 0 17).toNatClampNeg) σ) (fun r11 σ12 =>
      if r11 = 0 then (
        if (zI σ12 0 17) < 0 ∨ 4096 ≤ (zI σ12 0 17).toNatClampNeg then none else (
        obd (fX12_isDigit N (zA σ12 6 (zI σ12 0 17).toNatClampNeg) σ12) (fun r14 σ15 =>
        if r14 = 0 then (
          fX12_name_b54 N   σ15)
        else (
          fX12_name_b41 N (fX12_name_b0 N  n)  σ15))))
      else (
        fX12_name_b41 N (fX12_name_b0 N  n)  σ12))))
def fX12_name (N : Nat)  (σ : zSt) : Option (Unit × zSt) :=
  fX12_name_b0 N  N  σ
def fX12_number_b67 (N : Nat)  : Nat → Int32 → zSt → Option (Unit × zSt)
  | 0, _, _ => none
  | n + 1, x1_, σ =>
    if (zI σ 0 17) ≤ x1_ then (
      some ((), σ))
    else (
      if (zI σ 0 19) = (2 : Int32) then (
        if x1_ < 0 ∨ 4096 ≤ x1_.toNatClampNeg then none else (
        bnd (zsL σ 0 20 ((((10 : Int64) * (zL σ 0 20)) + ((zA σ 6 x1_.toNatClampNeg).toInt64)) - (48 : Int64))) (fun σ3 =>
        bnd (x1_ + (1 : Int32)) (fun x4 =>
        fX12_number_b67 N  n x4 σ3))))
      else (
        some ((), σ)))
def fX12_number_b59 (N : Nat)  (s0_ : Int32) (σ : zSt) : Option (Unit × zSt) :=
  bnd (zsI σ 0 19 s0_) (fun σ1 =>
  bnd (zI σ1 0 18) (fun x2 =>
  fX12_number_b67 N  N x2 σ1))
def fX12_number_b39 (N : Nat)   (σ : zSt) : Option (Unit × zSt) :=
  if (10 : Int32) < ((zI σ 0 17) - (zI σ 0 18)) then (
    fX12_number_b59 N  (5 : Int32) σ)
  else (
    fX12_number_b59 N  (2 : Int32) σ)
def fX12_number_b0 (N : Nat)  : Nat → zSt → Option (Unit × zSt)
  | 0, _ => none
  | n + 1, σ =>
    if (zI σ 0 16) ≤ (zI σ 0 17) then (
      fX12_number_b39 N   σ)
    else (
      if (zI σ 0 17) < 0 ∨ 4096 ≤ (zI σ 0 17).toNatClampNeg then none else (
      obd (fX12_isDigit N (zA σ 6 (zI σ 0 17).toNatClampNeg) σ) (fun r5 σ6 =>
      if r5 = 0 then (
        fX12_number_b39 N   σ6)
      else (
        bnd (zsI σ6 0 17 ((zI σ6 0 17) + (1 : Int32))) (fun σ7 =>
        fX12_number_b0 N  n  σ7)))))
def fX12_number (N : Nat)  (σ : zSt) : Option (Unit × zSt) :=
  fX12_number_b0 N  N  σ
def fX12_sign_b243 (N : Nat)  (x1_ : Int32) (x2_ : Int32) (x3_ : Int32) (x4_ : Int32) (s0_ : Int32) (σ : zSt) : Option (Unit × zSt) :=
  if x4_ = 0 then (
    if x3_ = 0 then (
      if s0_ = 0 then (
        bnd (zsI σ 0 19 (5 : Int32)) (fun σ7 =>
        some ((), σ7)))
      else (
        some ((), σ)))
    else (
      some ((), σ)))
  else (
    bnd (zsL σ 0 20 (((x1_ <<< ((8 : Int32) &&& 31)) ||| x2_).toInt64)) (fun σ8 =>
    bnd (zsI σ8 0 17 ((zI σ8 0 17) + (1 : Int32))) (fun σ9 =>
    some ((), σ9))))
def fX12_sign_b238 (N : Nat)  (x1_ : Int32) (x2_ : Int32) (x3_ : Int32) (x4_ : Int32) (σ : zSt) : Option (Unit × zSt) :=
  fX12_sign_b243 N  x1_ x2_ x3_ x4_ (1 : Int32) σ
def fX12_sign_b200 (N : Nat)  (x1_ : Int32) (x2_ : Int32) (x3_ : Int32) (s0_ : Int32) (σ : zSt) : Option (Unit × zSt) :=
  if x1_ = (61 : Int32) then (
    fX12_sign_b238 N  x1_ x2_ x3_ s0_ σ)
  else (
    if x1_ = (33 : Int32) then (
      fX12_sign_b238 N  x1_ x2_ x3_ s0_ σ)
    else (
      if x1_ = (60 : Int32) then (
        fX12_sign_b238 N  x1_ x2_ x3_ s0_ σ)
      else (
        if x1_ = (62 : Int32) then (
          fX12_sign_b238 N  x1_ x2_ x3_ s0_ σ)
        else (
          if x1_ = (124 : Int32) then (
            fX12_sign_b238 N  x1_ x2_ x3_ s0_ σ)
          else (
            if x1_ = (38 : Int32) then (
              fX12_sign_b238 N  x1_ x2_ x3_ s0_ σ)
            else (
              fX12_sign_b243 N  x1_ x2_ x3_ s0_ (0 : Int32) σ))))))
def fX12_sign_b195 (N : Nat)  (x1_ : Int32) (x2_ : Int32) (x3_ : Int32) (σ : zSt) : Option (Unit × zSt) :=
  fX12_sign_b200 N  x1_ x2_ x3_ (1 : Int32) σ
def fX12_sign_b199 (N : Nat)  (x1_ : Int32) (x2_ : Int32) (x3_ : Int32) (σ : zSt) : Option (Unit × zSt) :=
  fX12_sign_b200 N  x1_ x2_ x3_ (0 : Int32) σ
def fX12_sign_b190 (N : Nat)  (x1_ : Int32) (x2_ : Int32) (x3_ : Int32) (σ : zSt) : Option (Unit × zSt) :=
  if x2_ = x1_ then (
    fX12_sign_b195 N  x1_ x2_ x3_ σ)
  else (
    fX12_sign_b199 N  x1_ x2_ x3_ σ)
def fX12_sign_b166 (N : Nat)  (x1_ : Int32) (x2_ : Int32) (x3_ : Int32) (σ : zSt) : Option (Unit × zSt) :=
  if x1_ = (124 : Int32) then (
    fX12_sign_b190 N  x1_ x2_ x3_ σ)
  else (
    if x1_ = (38 : Int32) then (
      fX12_sign_b190 N  x1_ x2_ x3_ σ)
    else (
      if x1_ = (60 : Int32) then (
        fX12_sign_b190 N  x1_ x2_ x3_ σ)
      else (
        if x1_ = (62 : Int32) then (
          fX12_sign_b190 N  x1_ x2_ x3_ σ)
        else (
          fX12_sign_b199 N  x1_ x2_ x3_ σ))))
def fX12_sign_b160 (N : Nat)  (x1_ : Int32) (x2_ : Int32) (x3_ : Int32) (σ : zSt) : Option (Unit × zSt) :=
  if x2_ = (61 : Int32) then (
    fX12_sign_b195 N  x1_ x2_ x3_ σ)
  else (
    fX12_sign_b166 N  x1_ x2_ x3_ σ)
def fX12_sign_b135 (N : Nat)  (x1_ : Int32) (x2_ : Int32) (s0_ : Int32) (σ : zSt) : Option (Unit × zSt) :=
  if x1_ = (61 : Int32) then (
    fX12_sign_b160 N  x1_ x2_ s0_ σ)
  else (
    if x1_ = (33 : Int32) then (
      fX12_sign_b160 N  x1_ x2_ s0_ σ)
    else (
      if x1_ = (60 : Int32) then (
        fX12_sign_b160 N  x1_ x2_ s0_ σ)
      else (
        if x1_ = (62 : Int32) then (
          fX12_sign_b160 N  x1_ x2_ s0_ σ)
        else (
          fX12_sign_b166 N  x1_ x2_ s0_ σ))))
def fX12_sign_b130 (N : Nat)  (x1_ : Int32) (x2_ : Int32) (σ : zSt) : Option (Unit × zSt) :=
  fX12_sign_b135 N  x1_ x2_ (1 : Int32) σ
def fX12_sign (N : Nat)  (σ : zSt) : Option (Unit × zSt) :=
  if (zI σ 0 17) < 0 ∨ 4096 ≤ (zI σ 0 17).toNatClampNeg then none else (
  bnd (zA σ 6 (zI σ 0 17).toNatClampNeg) (fun x1 =>
  bnd (zsI σ 0 17 ((zI σ 0 17) + (1 : Int32))) (fun σ2 =>
  obd (fX12_see N (zI σ2 0 17) σ2) (fun r3 σ4 =>
  bnd (zsI σ4 0 19 (4 : Int32)) (fun σ5 =>
  bnd (zsL σ5 0 20 (x1.toInt64)) (fun σ6 =>
  if x1 = (40 : Int32) then (
    fX12_sign_b130 N  x1 r3 σ6)
  else (
    if x1 = (41 : Int32) then (
      fX12_sign_b130 N  x1 r3 σ6)
    else (
      if x1 = (123 : Int32) then (
        fX12_sign_b130 N  x1 r3 σ6)
      else (
        if x1 = (125 : Int32) then (
          fX12_sign_b130 N  x1 r3 σ6)
        else (
          if x1 = (91 : Int32) then (
            fX12_sign_b130 N  x1 r3 σ6)
          else (
            if x1 = (93 : Int32) then (
              fX12_sign_b130 N  x1 r3 σ6)
            else (
              if x1 = (44 : Int32) then (
                fX12_sign_b130 N  x1 r3 σ6)
              else (
                if x1 = (59 : Int32) then (
                  fX12_sign_b130 N  x1 r3 σ6)
                else (
                  if x1 = (94 : Int32) then (
                    fX12_sign_b130 N  x1 r3 σ6)
                  else (
                    if x1 = (43 : Int32) then (
                      fX12_sign_b130 N  x1 r3 σ6)
                    else (
                      if x1 = (45 : Int32) then (
                        fX12_sign_b130 N  x1 r3 σ6)
                      else (
                        if x1 = (42 : Int32) then (
                          fX12_sign_b130 N  x1 r3 σ6)
                        else (
                          if x1 = (47 : Int32) then (
                            fX12_sign_b130 N  x1 r3 σ6)
                          else (
                            if x1 = (37 : Int32) then (
                              fX12_sign_b130 N  x1 r3 σ6)
                            else (
                              if x1 = (126 : Int32) then (
                                fX12_sign_b130 N  x1 r3 σ6)
                              else (
                                fX12_sign_b135 N  x1 r3 (0 : Int32) σ6)))))))))))))))))))))
def fX12_next_b52 (N : Nat)   (σ : zSt) : Option (Unit × zSt) :=
  bnd (zsI σ 0 18 (zI σ 0 17)) (fun σ1 =>
  bnd (zsL σ1 0 20 (0 : Int64)) (fun σ2 =>
  if (zI σ2 0 17) < (zI σ2 0 16) then (
    if (zI σ2 0 17) < 0 ∨ 4096 ≤ (zI σ2 0 17).toNatClampNeg then none else (
    obd (fX12_isLetter N (zA σ2 6 (zI σ2 0 17).toNatClampNeg) σ2) (fun r3 σ4 =>
    if r3 = 0 then (
      if (zI σ4 0 17) < 0 ∨ 4096 ≤ (zI σ4 0 17).toNatClampNeg then none else (
      obd (fX12_isDigit N (zA σ4 6 (zI σ4 0 17).toNatClampNeg) σ4) (fun r5 σ6 =>
      if r5 = 0 then (
        obd (fX12_sign N  σ6) (fun _ σ8 =>
        some ((), σ8)))
      else (
        obd (fX12_number N  σ6) (fun _ σ10 =>
        some ((), σ10))))))
    else (
      obd (fX12_name N  σ4) (fun _ σ12 =>
      some ((), σ12))))))
  else (
    bnd (zsI σ2 0 19 (0 : Int32)) (fun σ13 =>
    some ((), σ13)))))
def fX12_next_b39 (N : Nat) (k0 : zSt → Option (Unit × zSt))  (σ : zSt) : Option (Unit × zSt) :=
  bnd (zsI σ 0 17 ((zI σ 0 17) + (1 : Int32))) (fun σ14 =>
  k0  σ14)
def fX12_next_b0 (N : Nat)  : Nat → zSt → Option (Unit × zSt)
  | 0, _ => none
  | n + 1, σ =>
    if (zI σ 0 16) ≤ (zI σ 0 17) then (
      fX12_next_b52 N   σ)
    else (
      if (zI σ 0 17) < 0 ∨ 4096 ≤ (zI σ 0 17).toNatClampNeg then none else (
      if (zA σ 6 (zI σ 0 17).toNatClampNeg) = (32 : Int32) then (
        fX12_next_b39 N (fX12_next_b0 N  n)  σ)
      else (
        if (zI σ 0 17) < 0 ∨ 4096 ≤ (zI σ 0 17).toNatClampNeg then none else (
        if (zA σ 6 (zI σ 0 17).toNatClampNeg) = (10 : Int32) then (
          fX12_next_b39 N (fX12_next_b0 N  n)  σ)
        else (
          fX12_next_b52 N   σ)))))
def fX12_next (N : Nat)  (σ : zSt) : Option (Unit × zSt) :=
  fX12_next_b0 N  N  σ
def fX12_isWell (N : Nat)  (σ : zSt) : Option (Int32 × zSt) :=
  if (zI σ 0 21) = 0 then (
    some ((1 : Int32), σ))
  else (
    some ((0 : Int32), σ))
def fX12_fails (N : Nat) (a1_ : Int32) (a2_ : Int32) (σ : zSt) : Option (Unit × zSt) :=
  if (zI σ 0 21) = 0 then (
    bnd (zsI σ 0 21 (a1_ + ((16 : Int32) * a2_))) (fun σ1 =>
    some ((), σ1)))
  else (
    some ((), σ))
def fX12_stray_b14 (N : Nat)  (s0_ : Int32) (σ : zSt) : Option (Unit × zSt) :=
  obd (fX12_fails N s0_ (zI σ 0 18) σ) (fun _ σ2 =>
  some ((), σ2))
def fX12_stray (N : Nat)  (σ : zSt) : Option (Unit × zSt) :=
  if (zI σ 0 19) = (5 : Int32) then (
    fX12_stray_b14 N  (1 : Int32) σ)
  else (
    fX12_stray_b14 N  (2 : Int32) σ)
def fX12_isSign (N : Nat) (a1_ : Int32) (σ : zSt) : Option (Int32 × zSt) :=
  obd (fX12_isWell N  σ) (fun r1 σ2 =>
  if r1 = 0 then (
    some ((0 : Int32), σ2))
  else (
    if (zI σ2 0 19) = (4 : Int32) then (
      if (lg_cmp (zL σ2 0 20) (a1_.toInt64)) = 0 then (
        some ((1 : Int32), σ2))
      else (
        some ((0 : Int32), σ2)))
    else (
      some ((0 : Int32), σ2))))
def fX12_isWord (N : Nat) (a1_ : Int32) (σ : zSt) : Option (Int32 × zSt) :=
  obd (fX12_isWell N  σ) (fun r1 σ2 =>
  if r1 = 0 then (
    some ((0 : Int32), σ2))
  else (
    if (zI σ2 0 19) = (3 : Int32) then (
      if (lg_cmp (zL σ2 0 20) (a1_.toInt64)) = 0 then (
        some ((1 : Int32), σ2))
      else (
        some ((0 : Int32), σ2)))
    else (
      some ((0 : Int32), σ2))))
def fX12_takes (N : Nat) (a1_ : Int32) (σ : zSt) : Option (Unit × zSt) :=
  obd (fX12_isSign N a1_ σ) (fun r1 σ2 =>
  if r1 = 0 then (
    obd (fX12_stray N  σ2) (fun _ σ4 =>
    some ((), σ4)))
  else (
    obd (fX12_next N  σ2) (fun _ σ6 =>
    some ((), σ6))))
def fX12_named_b7 (N : Nat)  : Nat → Int64 → Int32 → zSt → Option (Int32 × zSt)
  | 0, _, _, _ => none
  | n + 1, x1_, x3_, σ =>
    if x3_ < 0 then (
      some (x3_, σ))
    else (
      if x3_ < 0 ∨ 1400 ≤ x3_.toNatClampNeg then none else (
      if (lg_cmp (zB σ 7 x3_.toNatClampNeg) x1_) = 0 then (
        some (x3_, σ))
      else (
        bnd (x3_ + (-1 : Int32)) (fun x2 =>
        fX12_named_b7 N  n x1_ x2 σ))))
def fX12_named (N : Nat) (a1_ : Int64) (σ : zSt) : Option (Int32 × zSt) :=
  bnd ((zI σ 0 22) - (1 : Int32)) (fun x1 =>
  fX12_named_b7 N  N a1_ x1 σ)
def fX12_localOf_b7 (N : Nat)  : Nat → Int64 → Int32 → zSt → Option (Int32 × zSt)
  | 0, _, _, _ => none
  | n + 1, x1_, x3_, σ =>
    if x3_ < 0 then (
      some (x3_, σ))
    else (
      if x3_ < 0 ∨ 1400 ≤ x3_.toNatClampNeg then none else (
      if (lg_cmp (zB σ 13 x3_.toNatClampNeg) x1_) = 0 then (
        some (x3_, σ))
      else (
        bnd (x3_ + (-1 : Int32)) (fun x2 =>
        fX12_localOf_b7 N  n x1_ x2 σ))))
def fX12_localOf (N : Nat) (a1_ : Int64) (σ : zSt) : Option (Int32 × zSt) :=
  bnd ((zI σ 0 30) - (1 : Int32)) (fun x1 =>
  fX12_localOf_b7 N  N a1_ x1 σ)
def fX12_node (N : Nat) (a1_ : Int32) (σ : zSt) : Option (Int32 × zSt) :=
  bnd (zI σ 0 38) (fun x1 =>
  bnd (zsI σ 0 38 ((zI σ 0 38) + (1 : Int32))) (fun σ2 =>
  if x1 < 0 ∨ 4200 ≤ x1.toNatClampNeg then none else (
  bnd (zsA σ2 15 x1.toNatClampNeg a1_) (fun σ3 =>
  if x1 < 0 ∨ 4200 ≤ x1.toNatClampNeg then none else (
  bnd (zsA σ3 16 x1.toNatClampNeg (-1 : Int32)) (fun σ4 =>
  if x1 < 0 ∨ 4200 ≤ x1.toNatClampNeg then none else (
  bnd (zsA σ4 17 x1.toNatClampNeg (-1 : Int32)) (fun σ5 =>
  if x1 < 0 ∨ 4200 ≤ x1.toNatClampNeg then none else (
  bnd (zsA σ5 18 x1.toNatClampNeg (-1 : Int32)) (fun σ6 =>
  if x1 < 0 ∨ 4200 ≤ x1.toNatClampNeg then none else (
  bnd (zsA σ6 19 x1.toNatClampNeg (0 : Int32)) (fun σ7 =>
  if x1 < 0 ∨ 4200 ≤ x1.toNatClampNeg then none else (
  bnd (zsA σ7 20 x1.toNatClampNeg (0 : Int32)) (fun σ8 =>
  if x1 < 0 ∨ 4200 ≤ x1.toNatClampNeg then none else (
  bnd (zsA σ8 21 x1.toNatClampNeg (-1 : Int32)) (fun σ9 =>
  some (x1, σ9)))))))))))))))))
def fX12_four_b27 (N : Nat)   (σ : zSt) : Option (Unit × zSt) :=
  bnd (zsI σ 0 36 ((zI σ 0 36) + (4 : Int32))) (fun σ3 =>
  some ((), σ3))
def fX12_four (N : Nat) (a1_ : Int32) (σ : zSt) : Option (Unit × zSt) :=
  obd (fX12_isWell N  σ) (fun r1 σ2 =>
  if r1 = 0 then (
    fX12_four_b27 N   σ2)
  else (
    if ((zI σ2 0 36) + (4 : Int32)) ≤ (zI σ2 0 3) then (
      fX12_four_b27 N   σ2)
    else (
      obd (fX12_fails N (9 : Int32) a1_ σ2) (fun _ σ5 =>
      fX12_four_b27 N   σ5))))
def fX12_nests_b26 (N : Nat)   (σ : zSt) : Option (Unit × zSt) :=
  bnd (zsI σ 0 37 ((zI σ 0 37) + (1 : Int32))) (fun σ3 =>
  some ((), σ3))
def fX12_nests (N : Nat)  (σ : zSt) : Option (Unit × zSt) :=
  obd (fX12_isWell N  σ) (fun r1 σ2 =>
  if r1 = 0 then (
    fX12_nests_b26 N   σ2)
  else (
    if (zI σ2 0 37) = (40 : Int32) then (
      obd (fX12_fails N (8 : Int32) (zI σ2 0 18) σ2) (fun _ σ5 =>
      fX12_nests_b26 N   σ5))
    else (
      fX12_nests_b26 N   σ2)))
def fX12_opens (N : Nat) (a1_ : Int32) (σ : zSt) : Option (Unit × zSt) :=
  obd (fX12_isSign N a1_ σ) (fun r1 σ2 =>
  if r1 = 0 then (
    obd (fX12_stray N  σ2) (fun _ σ4 =>
    some ((), σ4)))
  else (
    obd (fX12_nests N  σ2) (fun _ σ6 =>
    obd (fX12_isWell N  σ6) (fun r7 σ8 =>
    if r7 = 0 then (
      some ((), σ8))
    else (
      obd (fX12_next N  σ8) (fun _ σ10 =>
      some ((), σ10)))))))
def fX12_closes (N : Nat) (a1_ : Int32) (σ : zSt) : Option (Unit × zSt) :=
  obd (fX12_takes N a1_ σ) (fun _ σ2 =>
  bnd (zsI σ2 0 37 ((zI σ2 0 37) - (1 : Int32))) (fun σ3 =>
  some ((), σ3)))
def fX12_parameter_b77 (N : Nat)   (σ : zSt) : Option (Unit × zSt) :=
  obd (fX12_isWell N  σ) (fun r7 σ8 =>
  if r7 = 0 then (
    some ((), σ8))
  else (
    if (zI σ8 0 30) < 0 ∨ 1400 ≤ (zI σ8 0 30).toNatClampNeg then none else (
    bnd (zsB σ8 13 (zI σ8 0 30).toNatClampNeg (zL σ8 0 20)) (fun σ9 =>
    bnd (zsI σ9 0 30 ((zI σ9 0 30) + (1 : Int32))) (fun σ10 =>
    if (zI σ10 0 35) < 0 ∨ 1400 ≤ (zI σ10 0 35).toNatClampNeg then none else (
    if (zI σ10 0 35) < 0 ∨ 1400 ≤ (zI σ10 0 35).toNatClampNeg then none else (
    bnd (zsA σ10 10 (zI σ10 0 35).toNatClampNeg ((zA σ10 10 (zI σ10 0 35).toNatClampNeg) + (1 : Int32))) (fun σ11 =>
    obd (fX12_next N  σ11) (fun _ σ13 =>
    some ((), σ13))))))))))
def fX12_parameter (N : Nat)  (σ : zSt) : Option (Unit × zSt) :=
  obd (fX12_isWord N (0 : Int32) σ) (fun r1 σ2 =>
  if r1 = 0 then (
    obd (fX12_stray N  σ2) (fun _ σ21 =>
    some ((), σ21)))
  else (
    obd (fX12_next N  σ2) (fun _ σ4 =>
    if (zI σ4 0 19) = (1 : Int32) then (
      obd (fX12_localOf N (zL σ4 0 20) σ4) (fun r5 σ6 =>
      if r5 < 0 then (
        if (zI σ6 0 35) < 0 ∨ 1400 ≤ (zI σ6 0 35).toNatClampNeg then none else (
        if (zA σ6 10 (zI σ6 0 35).toNatClampNeg) = (8 : Int32) then (
          obd (fX12_fails N (6 : Int32) (zI σ6 0 18) σ6) (fun _ σ15 =>
          fX12_parameter_b77 N   σ15))
        else (
          fX12_parameter_b77 N   σ6)))
      else (
        obd (fX12_fails N (4 : Int32) (zI σ6 0 18) σ6) (fun _ σ17 =>
        fX12_parameter_b77 N   σ17))))
    else (
      obd (fX12_stray N  σ4) (fun _ σ19 =>
      some ((), σ19))))))
def fX12_enter (N : Nat) (a1_ : Int32) (a2_ : Int32) (σ : zSt) : Option (Unit × zSt) :=
  if (zI σ 0 46) < 0 ∨ 100 ≤ (zI σ 0 46).toNatClampNeg then none else (
  bnd (zsA σ 22 (zI σ 0 46).toNatClampNeg a1_) (fun σ1 =>
  if (zI σ1 0 46) < 0 ∨ 100 ≤ (zI σ1 0 46).toNatClampNeg then none else (
  bnd (zsA σ1 23 (zI σ1 0 46).toNatClampNeg a2_) (fun σ2 =>
  bnd (zsI σ2 0 46 ((zI σ2 0 46) + (1 : Int32))) (fun σ3 =>
  some ((), σ3))))))
def fX12_beginBlock (N : Nat)  (σ : zSt) : Option (Unit × zSt) :=
  obd (fX12_node N (20 : Int32) σ) (fun r1 σ2 =>
  if (zI σ2 0 46) < 0 ∨ 100 ≤ (zI σ2 0 46).toNatClampNeg then none else (
  bnd (zsA σ2 26 (zI σ2 0 46).toNatClampNeg (zI σ2 0 33)) (fun σ3 =>
  if (zI σ3 0 46) < 0 ∨ 100 ≤ (zI σ3 0 46).toNatClampNeg then none else (
  bnd (zsA σ3 27 (zI σ3 0 46).toNatClampNeg (zI σ3 0 30)) (fun σ4 =>
  if (zI σ4 0 46) < 0 ∨ 100 ≤ (zI σ4 0 46).toNatClampNeg then none else (
  bnd (zsA σ4 28 (zI σ4 0 46).toNatClampNeg (zI σ4 0 34)) (fun σ5 =>
  if (zI σ5 0 46) < 0 ∨ 100 ≤ (zI σ5 0 46).toNatClampNeg then none else (
  bnd (zsA σ5 24 (zI σ5 0 46).toNatClampNeg (-1 : Int32)) (fun σ6 =>
  if (zI σ6 0 46) < 0 ∨ 100 ≤ (zI σ6 0 46).toNatClampNeg then none else (
  bnd (zsA σ6 25 (zI σ6 0 46).toNatClampNeg (1 : Int32)) (fun σ7 =>
  obd (fX12_enter N (0 : Int32) r1 σ7) (fun _ σ9 =>
  bnd (zsI σ9 0 33 (zI σ9 0 30)) (fun σ10 =>
  obd (fX12_opens N (123 : Int32) σ10) (fun _ σ12 =>
  some ((), σ12)))))))))))))))
def fX12_append_b44 (N : Nat)  (x1_ : Int32) (x2_ : Int32) (σ : zSt) : Option (Unit × zSt) :=
  if x2_ < 0 ∨ 100 ≤ x2_.toNatClampNeg then none else (
  bnd (zsA σ 24 x2_.toNatClampNeg x1_) (fun σ3 =>
  some ((), σ3)))
def fX12_append (N : Nat) (a1_ : Int32) (σ : zSt) : Option (Unit × zSt) :=
  bnd ((zI σ 0 46) - (1 : Int32)) (fun x1 =>
  if x1 < 0 ∨ 100 ≤ x1.toNatClampNeg then none else (
  if (zA σ 24 x1.toNatClampNeg) = (-1 : Int32) then (
    if x1 < 0 ∨ 100 ≤ x1.toNatClampNeg then none else (
    if (zA σ 23 x1.toNatClampNeg) < 0 ∨ 4200 ≤ (zA σ 23 x1.toNatClampNeg).toNatClampNeg then none else (
    bnd (zsA σ 16 (zA σ 23 x1.toNatClampNeg).toNatClampNeg a1_) (fun σ4 =>
    fX12_append_b44 N  a1_ x1 σ4))))
  else (
    if x1 < 0 ∨ 100 ≤ x1.toNatClampNeg then none else (
    if (zA σ 24 x1.toNatClampNeg) < 0 ∨ 4200 ≤ (zA σ 24 x1.toNatClampNeg).toNatClampNeg then none else (
    bnd (zsA σ 21 (zA σ 24 x1.toNatClampNeg).toNatClampNeg a1_) (fun σ2 =>
    fX12_append_b44 N  a1_ x1 σ2))))))
def fX12_waits (N : Nat) (a1_ : Int32) (a2_ : Int32) (a3_ : Int32) (σ : zSt) : Option (Unit × zSt) :=
  if (zI σ 0 54) < 0 ∨ 1300 ≤ (zI σ 0 54).toNatClampNeg then none else (
  bnd (zsA σ 29 (zI σ 0 54).toNatClampNeg a1_) (fun σ1 =>
  if (zI σ1 0 54) < 0 ∨ 1300 ≤ (zI σ1 0 54).toNatClampNeg then none else (
  bnd (zsA σ1 30 (zI σ1 0 54).toNatClampNeg a2_) (fun σ2 =>
  if (zI σ2 0 54) < 0 ∨ 1300 ≤ (zI σ2 0 54).toNatClampNeg then none else (
  bnd (zsA σ2 31 (zI σ2 0 54).toNatClampNeg a3_) (fun σ3 =>
  if (zI σ3 0 54) < 0 ∨ 1300 ≤ (zI σ3 0 54).toNatClampNeg then none else (
  bnd (zsA σ3 32 (zI σ3 0 54).toNatClampNeg (-1 : Int32)) (fun σ4 =>
  if (zI σ4 0 54) < 0 ∨ 1300 ≤ (zI σ4 0 54).toNatClampNeg then none else (
  bnd (zsA σ4 33 (zI σ4 0 54).toNatClampNeg (-1 : Int32)) (fun σ5 =>
  bnd (zsI σ5 0 54 ((zI σ5 0 54) + (1 : Int32))) (fun σ6 =>
  some ((), σ6))))))))))))
def fX12_itemOf (N : Nat) (a1_ : Int32) (σ : zSt) : Option (Int32 × zSt) :=
  obd (fX12_node N (4 : Int32) σ) (fun r1 σ2 =>
  if a1_ < 0 ∨ 1400 ≤ a1_.toNatClampNeg then none else (
  if r1 < 0 ∨ 4200 ≤ r1.toNatClampNeg then none else (
  bnd (zsA σ2 19 r1.toNatClampNeg (zA σ2 9 a1_.toNatClampNeg)) (fun σ3 =>
  if a1_ < 0 ∨ 1400 ≤ a1_.toNatClampNeg then none else (
  if r1 < 0 ∨ 4200 ≤ r1.toNatClampNeg then none else (
  bnd (zsA σ3 20 r1.toNatClampNeg (zA σ3 10 a1_.toNatClampNeg)) (fun σ4 =>
  obd (fX12_opens N (91 : Int32) σ4) (fun _ σ6 =>
  obd (fX12_isWell N  σ6) (fun r7 σ8 =>
  if r7 = 0 then (
    some ((-1 : Int32), σ8))
  else (
    obd (fX12_waits N (2 : Int32) r1 (-1 : Int32) σ8) (fun _ σ10 =>
    some ((-1 : Int32), σ10))))))))))))
def fX12_endsCall_b27 (N : Nat)  (x1_ : Int32) (σ : zSt) : Option (Int32 × zSt) :=
  obd (fX12_closes N (41 : Int32) σ) (fun _ σ2 =>
  bnd (zsI σ2 0 54 ((zI σ2 0 54) - (1 : Int32))) (fun σ3 =>
  some (x1_, σ3)))
def fX12_endsCall (N : Nat) (a1_ : Int32) (a2_ : Int32) (σ : zSt) : Option (Int32 × zSt) :=
  if a1_ < 0 ∨ 4200 ≤ a1_.toNatClampNeg then none else (
  if a1_ < 0 ∨ 4200 ≤ a1_.toNatClampNeg then none else (
  if (zA σ 19 a1_.toNatClampNeg) < 0 ∨ 1400 ≤ (zA σ 19 a1_.toNatClampNeg).toNatClampNeg then none else (
  if (zA σ 20 a1_.toNatClampNeg) = (zA σ 10 (zA σ 19 a1_.toNatClampNeg).toNatClampNeg) then (
    fX12_endsCall_b27 N  a1_ σ)
  else (
    obd (fX12_fails N (6 : Int32) a2_ σ) (fun _ σ5 =>
    fX12_endsCall_b27 N  a1_ σ5)))))
def fX12_call (N : Nat) (a1_ : Int32) (a2_ : Int32) (σ : zSt) : Option (Int32 × zSt) :=
  obd (fX12_node N (9 : Int32) σ) (fun r1 σ2 =>
  if r1 < 0 ∨ 4200 ≤ r1.toNatClampNeg then none else (
  bnd (zsA σ2 19 r1.toNatClampNeg a2_) (fun σ3 =>
  obd (fX12_opens N (40 : Int32) σ3) (fun _ σ5 =>
  obd (fX12_isWell N  σ5) (fun r6 σ7 =>
  if r6 = 0 then (
    some ((-1 : Int32), σ7))
  else (
    obd (fX12_waits N (3 : Int32) r1 (-1 : Int32) σ7) (fun _ σ9 =>
    if ((zI σ9 0 54) - (1 : Int32)) < 0 ∨ 1300 ≤ ((zI σ9 0 54) - (1 : Int32)).toNatClampNeg then none else (
    bnd (zsA σ9 32 ((zI σ9 0 54) - (1 : Int32)).toNatClampNeg a1_) (fun σ10 =>
    obd (fX12_isSign N (41 : Int32) σ10) (fun r11 σ12 =>
    if r11 = 0 then (
      some ((-1 : Int32), σ12))
    else (
      obd (fX12_endsCall N r1 a1_ σ12) (fun r13 σ14 =>
      some (r13, σ14)))))))))))))
def fX12_level (N : Nat) (a0_ : Int64) (σ : zSt) : Option (Int32 × zSt) :=
  bnd (a0_.toInt32) (fun x1 =>
  if x1 = (37 : Int32) then (
    some ((9 : Int32), σ))
  else if x1 = (38 : Int32) then (
    some ((4 : Int32), σ))
  else if x1 = (42 : Int32) then (
    some ((9 : Int32), σ))
  else if x1 = (43 : Int32) then (
    some ((8 : Int32), σ))
  else if x1 = (45 : Int32) then (
    some ((8 : Int32), σ))
  else if x1 = (47 : Int32) then (
    some ((9 : Int32), σ))
  else if x1 = (60 : Int32) then (
    some ((6 : Int32), σ))
  else if x1 = (62 : Int32) then (
    some ((6 : Int32), σ))
  else if x1 = (94 : Int32) then (
    some ((3 : Int32), σ))
  else if x1 = (124 : Int32) then (
    some ((2 : Int32), σ))
  else if x1 = (8509 : Int32) then (
    some ((5 : Int32), σ))
  else if x1 = (9766 : Int32) then (
    some ((1 : Int32), σ))
  else if x1 = (15420 : Int32) then (
    some ((7 : Int32), σ))
  else if x1 = (15421 : Int32) then (
    some ((6 : Int32), σ))
  else if x1 = (15677 : Int32) then (
    some ((5 : Int32), σ))
  else if x1 = (15933 : Int32) then (
    some ((6 : Int32), σ))
  else if x1 = (15934 : Int32) then (
    some ((7 : Int32), σ))
  else if x1 = (31868 : Int32) then (
    some ((0 : Int32), σ))
  else (
    some ((-1 : Int32), σ)))
def fX12_follows_b27 (N : Nat) (k7 : Int32 → zSt → Option (Int32 × zSt)) (x1_ : Int32) (σ : zSt) : Option (Int32 × zSt) :=
  bnd (x1_ + (-1 : Int32)) (fun x2 =>
  k7 x2 σ)
def fX12_follows_b118 (N : Nat)   (σ : zSt) : Option (Int32 × zSt) :=
  some ((1 : Int32), σ)
def fX12_follows_b68 (N : Nat)  (x1_ : Int32) (s0_ : Int32) (σ : zSt) : Option (Int32 × zSt) :=
  if (zI σ 0 19) = (4 : Int32) then (
    obd (fX12_level N (zL σ 0 20) σ) (fun r3 σ4 =>
    if 0 ≤ r3 then (
      fX12_follows_b118 N   σ4)
    else (
      if (lg_cmp (zL σ4 0 20) (s0_.toInt64)) = 0 then (
        fX12_follows_b118 N   σ4)
      else (
        if x1_ < 0 ∨ 1300 ≤ x1_.toNatClampNeg then none else (
        if (zA σ4 29 x1_.toNatClampNeg) = (3 : Int32) then (
          if (lg_cmp (zL σ4 0 20) (44 : Int64)) = 0 then (
            fX12_follows_b118 N   σ4)
          else (
            some ((0 : Int32), σ4)))
        else (
          some ((0 : Int32), σ4)))))))
  else (
    some ((0 : Int32), σ))
def fX12_follows_b7 (N : Nat)  : Nat → Int32 → zSt → Option (Int32 × zSt)
  | 0, _, _ => none
  | n + 1, x1_, σ =>
    if x1_ < 0 ∨ 1300 ≤ x1_.toNatClampNeg then none else (
    if (zA σ 29 x1_.toNatClampNeg) = (4 : Int32) then (
      fX12_follows_b27 N (fX12_follows_b7 N  n) x1_ σ)
    else (
      if x1_ < 0 ∨ 1300 ≤ x1_.toNatClampNeg then none else (
      if (zA σ 29 x1_.toNatClampNeg) = (5 : Int32) then (
        fX12_follows_b27 N (fX12_follows_b7 N  n) x1_ σ)
      else (
        if x1_ < 0 ∨ 1300 ≤ x1_.toNatClampNeg then none else (
        if (zA σ 29 x1_.toNatClampNeg) = 0 then (
          if x1_ < 0 ∨ 1300 ≤ x1_.toNatClampNeg then none else (
          fX12_follows_b68 N  x1_ (zA σ 31 x1_.toNatClampNeg) σ))
        else (
          if x1_ < 0 ∨ 1300 ≤ x1_.toNatClampNeg then none else (
          if (zA σ 29 x1_.toNatClampNeg) = (2 : Int32) then (
            fX12_follows_b68 N  x1_ (93 : Int32) σ)
          else (
            fX12_follows_b68 N  x1_ (41 : Int32) σ))))))))
def fX12_follows (N : Nat)  (σ : zSt) : Option (Int32 × zSt) :=
  bnd ((zI σ 0 54) - (1 : Int32)) (fun x1 =>
  fX12_follows_b7 N  N x1 σ)
def fX12_nameIn_b107 (N : Nat)  (x1_ : Int32) (x3_ : Int32) (x5_ : Int32) (s0_ : Int32) (s1_ : Int32) (σ : zSt) : Option (Int32 × zSt) :=
  if s1_ = s0_ then (
    if x5_ = 0 then (
      obd (fX12_call N x1_ x3_ σ) (fun r14 σ15 =>
      some (r14, σ15)))
    else (
      obd (fX12_itemOf N x3_ σ) (fun r16 σ17 =>
      some (r16, σ17))))
  else (
    obd (fX12_fails N (5 : Int32) x1_ σ) (fun _ σ19 =>
    some ((-1 : Int32), σ19)))
def fX12_nameIn_b95 (N : Nat)  (x1_ : Int32) (x3_ : Int32) (x4_ : Int32) (x5_ : Int32) (σ : zSt) : Option (Int32 × zSt) :=
  if x5_ = 0 then (
    fX12_nameIn_b107 N  x1_ x3_ x5_ (2 : Int32) x4_ σ)
  else (
    fX12_nameIn_b107 N  x1_ x3_ x5_ (1 : Int32) x4_ σ)
def fX12_nameIn_b204 (N : Nat)  (x6_ : Int32) (s0_ : Int32) (s1_ : Int32) (σ : zSt) : Option (Int32 × zSt) :=
  if s1_ < 0 ∨ 4200 ≤ s1_.toNatClampNeg then none else (
  bnd (zsA σ 19 s1_.toNatClampNeg s0_) (fun σ26 =>
  some (x6_, σ26)))
def fX12_nameIn_b174 (N : Nat)  (x2_ : Int32) (x3_ : Int32) (s0_ : Int32) (σ : zSt) : Option (Int32 × zSt) :=
  obd (fX12_node N s0_ σ) (fun r24 σ25 =>
  if x2_ < 0 then (
    if x3_ < 0 ∨ 1400 ≤ x3_.toNatClampNeg then none else (
    fX12_nameIn_b204 N  r24 (zA σ25 9 x3_.toNatClampNeg) r24 σ25))
  else (
    if x2_ < 0 ∨ 1400 ≤ x2_.toNatClampNeg then none else (
    fX12_nameIn_b204 N  r24 (zA σ25 14 x2_.toNatClampNeg) r24 σ25)))
def fX12_nameIn_b71 (N : Nat)  (x1_ : Int32) (x2_ : Int32) (x3_ : Int32) (s0_ : Int32) (σ : zSt) : Option (Int32 × zSt) :=
  obd (fX12_isSign N (91 : Int32) σ) (fun r12 σ13 =>
  if r12 = 0 then (
    obd (fX12_isSign N (40 : Int32) σ13) (fun r20 σ21 =>
    if r20 = 0 then (
      obd (fX12_follows N  σ21) (fun r22 σ23 =>
      if r22 = 0 then (
        obd (fX12_stray N  σ23) (fun _ σ30 =>
        some ((-1 : Int32), σ30)))
      else (
        if s0_ = 0 then (
          if x2_ < 0 then (
            fX12_nameIn_b174 N  x2_ x3_ (2 : Int32) σ23)
          else (
            fX12_nameIn_b174 N  x2_ x3_ (3 : Int32) σ23))
        else (
          obd (fX12_fails N (5 : Int32) x1_ σ23) (fun _ σ28 =>
          some ((-1 : Int32), σ28))))))
    else (
      fX12_nameIn_b95 N  x1_ x3_ s0_ r12 σ21)))
  else (
    fX12_nameIn_b95 N  x1_ x3_ s0_ r12 σ13))
def fX12_nameIn_b39 (N : Nat)  (x1_ : Int32) (x2_ : Int32) (x3_ : Int32) (σ : zSt) : Option (Int32 × zSt) :=
  obd (fX12_four N x1_ σ) (fun _ σ7 =>
  obd (fX12_isWell N  σ7) (fun r8 σ9 =>
  if r8 = 0 then (
    some ((-1 : Int32), σ9))
  else (
    obd (fX12_next N  σ9) (fun _ σ11 =>
    if x2_ < 0 then (
      if x3_ < 0 ∨ 1400 ≤ x3_.toNatClampNeg then none else (
      fX12_nameIn_b71 N  x1_ x2_ x3_ (zA σ11 8 x3_.toNatClampNeg) σ11))
    else (
      fX12_nameIn_b71 N  x1_ x2_ x3_ (0 : Int32) σ11)))))
def fX12_nameIn (N : Nat)  (σ : zSt) : Option (Int32 × zSt) :=
  bnd (zI σ 0 18) (fun x1 =>
  obd (fX12_localOf N (zL σ 0 20) σ) (fun r2 σ3 =>
  obd (fX12_named N (zL σ3 0 20) σ3) (fun r4 σ5 =>
  if 0 ≤ r2 then (
    fX12_nameIn_b39 N  x1 r2 r4 σ5)
  else (
    if 0 ≤ r4 then (
      fX12_nameIn_b39 N  x1 r2 r4 σ5)
    else (
      obd (fX12_fails N (3 : Int32) x1 σ5) (fun _ σ32 =>
      some ((-1 : Int32), σ32)))))))
def fX12_part_b86 (N : Nat)  (x2_ : Int32) (s0_ : Int32) (s1_ : Int32) (σ : zSt) : Option (Int32 × zSt) :=
  if s1_ < 0 ∨ 4200 ≤ s1_.toNatClampNeg then none else (
  bnd (zsA σ 19 s1_.toNatClampNeg s0_) (fun σ10 =>
  obd (fX12_isWell N  σ10) (fun r11 σ12 =>
  if r11 = 0 then (
    some ((-1 : Int32), σ12))
  else (
    obd (fX12_waits N (4 : Int32) x2_ (-1 : Int32) σ12) (fun _ σ14 =>
    obd (fX12_next N  σ14) (fun _ σ16 =>
    some ((-1 : Int32), σ16)))))))
def fX12_part_b32 (N : Nat)  (x1_ : Int32) (σ : zSt) : Option (Int32 × zSt) :=
  obd (fX12_nests N  σ) (fun _ σ5 =>
  obd (fX12_four N x1_ σ5) (fun _ σ7 =>
  obd (fX12_node N (5 : Int32) σ7) (fun r8 σ9 =>
  if (lg_cmp (zL σ9 0 20) (45 : Int64)) = 0 then (
    fX12_part_b86 N  r8 (24 : Int32) r8 σ9)
  else (
    if (lg_cmp (zL σ9 0 20) (33 : Int64)) = 0 then (
      fX12_part_b86 N  r8 (25 : Int32) r8 σ9)
    else (
      fX12_part_b86 N  r8 (26 : Int32) r8 σ9)))))
def fX12_part_b138 (N : Nat)   (σ : zSt) : Option (Int32 × zSt) :=
  obd (fX12_node N (1 : Int32) σ) (fun r47 σ48 =>
  if r47 < 0 ∨ 4200 ≤ r47.toNatClampNeg then none else (
  bnd (zsA σ48 19 r47.toNatClampNeg ((zL σ48 0 20).toInt32)) (fun σ49 =>
  obd (fX12_next N  σ49) (fun _ σ51 =>
  some (r47, σ51)))))
def fX12_part (N : Nat)  (σ : zSt) : Option (Int32 × zSt) :=
  bnd (zI σ 0 18) (fun x1 =>
  obd (fX12_isSign N (45 : Int32) σ) (fun r2 σ3 =>
  if r2 = 0 then (
    obd (fX12_isSign N (33 : Int32) σ3) (fun r17 σ18 =>
    if r17 = 0 then (
      obd (fX12_isSign N (126 : Int32) σ18) (fun r19 σ20 =>
      if r19 = 0 then (
        if (zI σ20 0 19) = (2 : Int32) then (
          obd (fX12_four N x1 σ20) (fun _ σ46 =>
          if (lg_cmp (zL σ46 0 20) (2147483647 : Int64)) ≤ 0 then (
            fX12_part_b138 N   σ46)
          else (
            obd (fX12_fails N (11 : Int32) x1 σ46) (fun _ σ53 =>
            fX12_part_b138 N   σ53))))
        else (
          obd (fX12_isWord N (6 : Int32) σ20) (fun r21 σ22 =>
          if r21 = 0 then (
            obd (fX12_isSign N (40 : Int32) σ22) (fun r23 σ24 =>
            if r23 = 0 then (
              if (zI σ24 0 19) = (1 : Int32) then (
                obd (fX12_nameIn N  σ24) (fun r27 σ28 =>
                some (r27, σ28)))
              else (
                obd (fX12_stray N  σ24) (fun _ σ26 =>
                some ((-1 : Int32), σ26))))
            else (
              obd (fX12_opens N (40 : Int32) σ24) (fun _ σ30 =>
              obd (fX12_isWell N  σ30) (fun r31 σ32 =>
              if r31 = 0 then (
                some ((-1 : Int32), σ32))
              else (
                obd (fX12_waits N (1 : Int32) (-1 : Int32) (-1 : Int32) σ32) (fun _ σ34 =>
                some ((-1 : Int32), σ34))))))))
          else (
            obd (fX12_four N x1 σ22) (fun _ σ36 =>
            obd (fX12_node N (10 : Int32) σ36) (fun r37 σ38 =>
            obd (fX12_next N  σ38) (fun _ σ40 =>
            obd (fX12_opens N (40 : Int32) σ40) (fun _ σ42 =>
            obd (fX12_closes N (41 : Int32) σ42) (fun _ σ44 =>
            some (r37, σ44))))))))))
      else (
        fX12_part_b32 N  x1 σ20)))
    else (
      fX12_part_b32 N  x1 σ18)))
  else (
    fX12_part_b32 N  x1 σ3)))
def fX12_second_b2 (N : Nat)  : Nat → Int32 → Int32 → zSt → Option (Int32 × zSt)
  | 0, _, _, _ => none
  | n + 1, x2_, x3_, σ =>
    if ((zI σ 0 54) - (1 : Int32)) < 0 ∨ 1300 ≤ ((zI σ 0 54) - (1 : Int32)).toNatClampNeg then none else (
    if (zA σ 29 ((zI σ 0 54) - (1 : Int32)).toNatClampNeg) = (5 : Int32) then (
      if ((zI σ 0 54) - (1 : Int32)) < 0 ∨ 1300 ≤ ((zI σ 0 54) - (1 : Int32)).toNatClampNeg then none else (
      if (zA σ 31 ((zI σ 0 54) - (1 : Int32)).toNatClampNeg) < x2_ then (
        some (x3_, σ))
      else (
        bnd (zsI σ 0 54 ((zI σ 0 54) - (1 : Int32))) (fun σ1 =>
        if (zI σ1 0 54) < 0 ∨ 1300 ≤ (zI σ1 0 54).toNatClampNeg then none else (
        if (zA σ1 30 (zI σ1 0 54).toNatClampNeg) < 0 ∨ 4200 ≤ (zA σ1 30 (zI σ1 0 54).toNatClampNeg).toNatClampNeg then none else (
        bnd (zsA σ1 17 (zA σ1 30 (zI σ1 0 54).toNatClampNeg).toNatClampNeg x3_) (fun σ2 =>
        if (zI σ2 0 54) < 0 ∨ 1300 ≤ (zI σ2 0 54).toNatClampNeg then none else (
        bnd (zA σ2 30 (zI σ2 0 54).toNatClampNeg) (fun x3 =>
        fX12_second_b2 N  n x2_ x3 σ2)))))))))
    else (
      some (x3_, σ)))
def fX12_second (N : Nat) (a1_ : Int32) (a2_ : Int32) (σ : zSt) : Option (Int32 × zSt) :=
  fX12_second_b2 N  N a2_ a1_ σ
def fX12_opOf (N : Nat) (a0_ : Int64) (σ : zSt) : Option (Int32 × zSt) :=
  bnd (a0_.toInt32) (fun x1 =>
  if x1 = (38 : Int32) then (
    some ((12 : Int32), σ))
  else if x1 = (42 : Int32) then (
    some ((23 : Int32), σ))
  else if x1 = (43 : Int32) then (
    some ((21 : Int32), σ))
  else if x1 = (45 : Int32) then (
    some ((22 : Int32), σ))
  else if x1 = (47 : Int32) then (
    some ((27 : Int32), σ))
  else if x1 = (60 : Int32) then (
    some ((15 : Int32), σ))
  else if x1 = (62 : Int32) then (
    some ((17 : Int32), σ))
  else if x1 = (94 : Int32) then (
    some ((11 : Int32), σ))
  else if x1 = (124 : Int32) then (
    some ((10 : Int32), σ))
  else if x1 = (8509 : Int32) then (
    some ((14 : Int32), σ))
  else if x1 = (15420 : Int32) then (
    some ((19 : Int32), σ))
  else if x1 = (15421 : Int32) then (
    some ((16 : Int32), σ))
  else if x1 = (15677 : Int32) then (
    some ((13 : Int32), σ))
  else if x1 = (15933 : Int32) then (
    some ((18 : Int32), σ))
  else if x1 = (15934 : Int32) then (
    some ((20 : Int32), σ))
  else (
    some ((28 : Int32), σ)))
def fX12_binary_b45 (N : Nat)  (x2_ : Int32) (x3_ : Int32) (s0_ : Int32) (σ : zSt) : Option (Unit × zSt) :=
  obd (fX12_node N s0_ σ) (fun r7 σ8 =>
  obd (fX12_opOf N (zL σ8 0 20) σ8) (fun r9 σ10 =>
  if r7 < 0 ∨ 4200 ≤ r7.toNatClampNeg then none else (
  bnd (zsA σ10 19 r7.toNatClampNeg r9) (fun σ11 =>
  if r7 < 0 ∨ 4200 ≤ r7.toNatClampNeg then none else (
  bnd (zsA σ11 16 r7.toNatClampNeg x3_) (fun σ12 =>
  obd (fX12_waits N (5 : Int32) r7 x2_ σ12) (fun _ σ14 =>
  obd (fX12_next N  σ14) (fun _ σ16 =>
  some ((), σ16)))))))))
def fX12_binary (N : Nat) (a1_ : Int32) (σ : zSt) : Option (Unit × zSt) :=
  obd (fX12_level N (zL σ 0 20) σ) (fun r1 σ2 =>
  obd (fX12_second N a1_ r1 σ2) (fun r3 σ4 =>
  obd (fX12_four N (zI σ4 0 18) σ4) (fun _ σ6 =>
  if r1 = 0 then (
    fX12_binary_b45 N  r1 r3 (8 : Int32) σ6)
  else (
    if r1 = (1 : Int32) then (
      fX12_binary_b45 N  r1 r3 (7 : Int32) σ6)
    else (
      fX12_binary_b45 N  r1 r3 (6 : Int32) σ6)))))
def fX12_endsOpen_b123 (N : Nat)  (x1_ : Int32) (x2_ : Int32) (x3_ : Int32) (σ : zSt) : Option (Int32 × zSt) :=
  if x2_ < 0 ∨ 1300 ≤ x2_.toNatClampNeg then none else (
  bnd (zsA σ 33 x2_.toNatClampNeg x1_) (fun σ12 =>
  if x3_ < 0 ∨ 4200 ≤ x3_.toNatClampNeg then none else (
  if x3_ < 0 ∨ 4200 ≤ x3_.toNatClampNeg then none else (
  bnd (zsA σ12 20 x3_.toNatClampNeg ((zA σ12 20 x3_.toNatClampNeg) + (1 : Int32))) (fun σ13 =>
  obd (fX12_isSign N (44 : Int32) σ13) (fun r14 σ15 =>
  if r14 = 0 then (
    obd (fX12_isSign N (41 : Int32) σ15) (fun r16 σ17 =>
    if r16 = 0 then (
      obd (fX12_stray N  σ17) (fun _ σ21 =>
      some (x3_, σ21)))
    else (
      if x2_ < 0 ∨ 1300 ≤ x2_.toNatClampNeg then none else (
      obd (fX12_endsCall N x3_ (zA σ17 32 x2_.toNatClampNeg) σ17) (fun r18 σ19 =>
      some (r18, σ19))))))
  else (
    obd (fX12_next N  σ15) (fun _ σ23 =>
    some ((-1 : Int32), σ23)))))))))
def fX12_endsOpen (N : Nat) (a1_ : Int32) (σ : zSt) : Option (Int32 × zSt) :=
  bnd ((zI σ 0 54) - (1 : Int32)) (fun x1 =>
  if x1 < 0 ∨ 1300 ≤ x1.toNatClampNeg then none else (
  bnd (zA σ 30 x1.toNatClampNeg) (fun x2 =>
  if x1 < 0 ∨ 1300 ≤ x1.toNatClampNeg then none else (
  bnd (zA σ 29 x1.toNatClampNeg) (fun x3 =>
  if x3 = (1 : Int32) then (
    obd (fX12_closes N (41 : Int32) σ) (fun _ σ5 =>
    bnd (zsI σ5 0 54 ((zI σ5 0 54) - (1 : Int32))) (fun σ6 =>
    some (a1_, σ6))))
  else if x3 = (2 : Int32) then (
    obd (fX12_closes N (93 : Int32) σ) (fun _ σ8 =>
    bnd (zsI σ8 0 54 ((zI σ8 0 54) - (1 : Int32))) (fun σ9 =>
    if x2 < 0 ∨ 4200 ≤ x2.toNatClampNeg then none else (
    bnd (zsA σ9 16 x2.toNatClampNeg a1_) (fun σ10 =>
    some (x2, σ10))))))
  else if x3 = (3 : Int32) then (
    if x1 < 0 ∨ 1300 ≤ x1.toNatClampNeg then none else (
    if (zA σ 33 x1.toNatClampNeg) = (-1 : Int32) then (
      if x2 < 0 ∨ 4200 ≤ x2.toNatClampNeg then none else (
      bnd (zsA σ 16 x2.toNatClampNeg a1_) (fun σ24 =>
      fX12_endsOpen_b123 N  a1_ x1 x2 σ24)))
    else (
      if x1 < 0 ∨ 1300 ≤ x1.toNatClampNeg then none else (
      if (zA σ 33 x1.toNatClampNeg) < 0 ∨ 4200 ≤ (zA σ 33 x1.toNatClampNeg).toNatClampNeg then none else (
      bnd (zsA σ 21 (zA σ 33 x1.toNatClampNeg).toNatClampNeg a1_) (fun σ11 =>
      fX12_endsOpen_b123 N  a1_ x1 x2 σ11))))))
  else (
    bnd (zsI σ 0 54 ((zI σ 0 54) - (1 : Int32))) (fun σ25 =>
    some (a1_, σ25))))))))
def fX12_works_b135 (N : Nat)  (x1_ : Int32) (σ : zSt) : Option (Int32 × zSt) :=
  if 0 ≤ x1_ then (
    some (x1_, σ))
  else (
    some ((0 : Int32), σ))
def fX12_works_b119 (N : Nat) (k2 : Int32 → zSt → Option (Int32 × zSt)) (x1_ : Int32) (σ : zSt) : Option (Int32 × zSt) :=
  obd (fX12_second N x1_ (-1 : Int32) σ) (fun r4 σ5 =>
  obd (fX12_endsOpen N r4 σ5) (fun r6 σ7 =>
  k2 r6 σ7))
def fX12_works_b28 (N : Nat) (k2 : Int32 → zSt → Option (Int32 × zSt)) : Nat → Int32 → zSt → Option (Int32 × zSt)
  | 0, _, _ => none
  | n + 1, x1_, σ =>
    if ((zI σ 0 54) - (1 : Int32)) < 0 ∨ 1300 ≤ ((zI σ 0 54) - (1 : Int32)).toNatClampNeg then none else (
    if (zA σ 29 ((zI σ 0 54) - (1 : Int32)).toNatClampNeg) = (4 : Int32) then (
      bnd (zsI σ 0 54 ((zI σ 0 54) - (1 : Int32))) (fun σ13 =>
      bnd (zsI σ13 0 37 ((zI σ13 0 37) - (1 : Int32))) (fun σ14 =>
      if (zI σ14 0 54) < 0 ∨ 1300 ≤ (zI σ14 0 54).toNatClampNeg then none else (
      if (zA σ14 30 (zI σ14 0 54).toNatClampNeg) < 0 ∨ 4200 ≤ (zA σ14 30 (zI σ14 0 54).toNatClampNeg).toNatClampNeg then none else (
      bnd (zsA σ14 16 (zA σ14 30 (zI σ14 0 54).toNatClampNeg).toNatClampNeg x1_) (fun σ15 =>
      if (zI σ15 0 54) < 0 ∨ 1300 ≤ (zI σ15 0 54).toNatClampNeg then none else (
      bnd (zA σ15 30 (zI σ15 0 54).toNatClampNeg) (fun x16 =>
      fX12_works_b28 N k2 n x16 σ15))))))))
    else (
      if (zI σ 0 19) = (4 : Int32) then (
        obd (fX12_level N (zL σ 0 20) σ) (fun r8 σ9 =>
        if r8 < 0 then (
          fX12_works_b119 N k2 x1_ σ9)
        else (
          obd (fX12_binary N x1_ σ9) (fun _ σ11 =>
          bnd (-1 : Int32) (fun x12 =>
          k2 x12 σ11)))))
      else (
        fX12_works_b119 N k2 x1_ σ)))
def fX12_works_b2 (N : Nat)  : Nat → Int32 → zSt → Option (Int32 × zSt)
  | 0, _, _ => none
  | n + 1, x1_, σ =>
    obd (fX12_isWell N  σ) (fun r2 σ3 =>
    if r2 = 0 then (
      fX12_works_b135 N  x1_ σ3)
    else (
      if (zI σ3 0 54) ≤ 0 then (
        fX12_works_b135 N  x1_ σ3)
      else (
        if 0 ≤ x1_ then (
          fX12_works_b28 N (fX12_works_b2 N  n) N x1_ σ3)
        else (
          obd (fX12_part N  σ3) (fun r17 σ18 =>
          fX12_works_b2 N  n r17 σ18)))))
def fX12_works (N : Nat)  (σ : zSt) : Option (Int32 × zSt) :=
  bnd (-1 : Int32) (fun x1 =>
  fX12_works_b2 N  N x1 σ)
def fX12_expression (N : Nat) (a1_ : Int32) (σ : zSt) : Option (Int32 × zSt) :=
  bnd (zsI σ 0 54 (0 : Int32)) (fun σ1 =>
  obd (fX12_waits N (0 : Int32) (-1 : Int32) a1_ σ1) (fun _ σ3 =>
  obd (fX12_works N  σ3) (fun r4 σ5 =>
  some (r4, σ5))))
def fX12_tellLocal_b194 (N : Nat)  (x1_ : Int32) (s0_ : Int32) (s1_ : Int32) (σ : zSt) : Option (Int32 × zSt) :=
  if s1_ < 0 ∨ 1400 ≤ s1_.toNatClampNeg then none else (
  bnd (zsA σ 12 s1_.toNatClampNeg s0_) (fun σ21 =>
  some (x1_, σ21)))
def fX12_tellLocal_b86 (N : Nat)  (x1_ : Int32) (x2_ : Int64) (σ : zSt) : Option (Int32 × zSt) :=
  obd (fX12_takes N (59 : Int32) σ) (fun _ σ13 =>
  obd (fX12_isWell N  σ13) (fun r14 σ15 =>
  if r14 = 0 then (
    some (x1_, σ15))
  else (
    if (zI σ15 0 30) < 0 ∨ 1400 ≤ (zI σ15 0 30).toNatClampNeg then none else (
    bnd (zsB σ15 13 (zI σ15 0 30).toNatClampNeg x2_) (fun σ16 =>
    if (zI σ16 0 30) < 0 ∨ 1400 ≤ (zI σ16 0 30).toNatClampNeg then none else (
    bnd (zsA σ16 14 (zI σ16 0 30).toNatClampNeg (zI σ16 0 34)) (fun σ17 =>
    if x1_ < 0 ∨ 4200 ≤ x1_.toNatClampNeg then none else (
    bnd (zsA σ17 19 x1_.toNatClampNeg (zI σ17 0 34)) (fun σ18 =>
    bnd (zsI σ18 0 30 ((zI σ18 0 30) + (1 : Int32))) (fun σ19 =>
    bnd (zsI σ19 0 34 ((zI σ19 0 34) + (1 : Int32))) (fun σ20 =>
    if (zI σ20 0 35) < 0 ∨ 1400 ≤ (zI σ20 0 35).toNatClampNeg then none else (
    if (zI σ20 0 34) ≤ (zA σ20 12 (zI σ20 0 35).toNatClampNeg) then (
      if (zI σ20 0 35) < 0 ∨ 1400 ≤ (zI σ20 0 35).toNatClampNeg then none else (
      fX12_tellLocal_b194 N  x1_ (zA σ20 12 (zI σ20 0 35).toNatClampNeg) (zI σ20 0 35) σ20))
    else (
      fX12_tellLocal_b194 N  x1_ (zI σ20 0 34) (zI σ20 0 35) σ20)))))))))))))
def fX12_tellLocal (N : Nat)  (σ : zSt) : Option (Int32 × zSt) :=
  obd (fX12_node N (21 : Int32) σ) (fun r1 σ2 =>
  obd (fX12_next N  σ2) (fun _ σ4 =>
  if (zI σ4 0 19) = (1 : Int32) then (
    bnd (zL σ4 0 20) (fun x5 =>
    obd (fX12_localOf N x5 σ4) (fun r6 σ7 =>
    if r6 < (zI σ7 0 33) then (
      obd (fX12_next N  σ7) (fun _ σ9 =>
      obd (fX12_isSign N (61 : Int32) σ9) (fun r10 σ11 =>
      if r10 = 0 then (
        fX12_tellLocal_b86 N  r1 x5 σ11)
      else (
        obd (fX12_next N  σ11) (fun _ σ23 =>
        obd (fX12_expression N (59 : Int32) σ23) (fun r24 σ25 =>
        if r1 < 0 ∨ 4200 ≤ r1.toNatClampNeg then none else (
        bnd (zsA σ25 16 r1.toNatClampNeg r24) (fun σ26 =>
        fX12_tellLocal_b86 N  r1 x5 σ26))))))))
    else (
      obd (fX12_fails N (4 : Int32) (zI σ7 0 18) σ7) (fun _ σ28 =>
      some (r1, σ28))))))
  else (
    obd (fX12_stray N  σ4) (fun _ σ30 =>
    some (r1, σ30)))))
def fX12_branch_b81 (N : Nat)  (x3_ : Int32) (s0_ : Int32) (σ : zSt) : Option (Int32 × zSt) :=
  obd (fX12_enter N s0_ x3_ σ) (fun _ σ22 =>
  some ((-1 : Int32), σ22))
def fX12_branch_b32 (N : Nat)  (x1_ : Int32) (s0_ : Int32) (σ : zSt) : Option (Int32 × zSt) :=
  obd (fX12_node N s0_ σ) (fun r8 σ9 =>
  obd (fX12_next N  σ9) (fun _ σ11 =>
  obd (fX12_opens N (40 : Int32) σ11) (fun _ σ13 =>
  obd (fX12_expression N (41 : Int32) σ13) (fun r14 σ15 =>
  if r8 < 0 ∨ 4200 ≤ r8.toNatClampNeg then none else (
  bnd (zsA σ15 16 r8.toNatClampNeg r14) (fun σ16 =>
  obd (fX12_closes N (41 : Int32) σ16) (fun _ σ18 =>
  obd (fX12_isWell N  σ18) (fun r19 σ20 =>
  if r19 = 0 then (
    some ((-1 : Int32), σ20))
  else (
    if x1_ = 0 then (
      fX12_branch_b81 N  r8 (1 : Int32) σ20)
    else (
      fX12_branch_b81 N  r8 (3 : Int32) σ20))))))))))
def fX12_branch (N : Nat)  (σ : zSt) : Option (Int32 × zSt) :=
  obd (fX12_isWord N (3 : Int32) σ) (fun r1 σ2 =>
  bnd (zI σ2 0 18) (fun x3 =>
  obd (fX12_nests N  σ2) (fun _ σ5 =>
  obd (fX12_four N x3 σ5) (fun _ σ7 =>
  if r1 = 0 then (
    fX12_branch_b32 N  r1 (22 : Int32) σ7)
  else (
    fX12_branch_b32 N  r1 (23 : Int32) σ7)))))
def fX12_callAlone (N : Nat) (a1_ : Int32) (a2_ : Int32) (σ : zSt) : Option (Int32 × zSt) :=
  bnd (zsI σ 0 54 (0 : Int32)) (fun σ1 =>
  obd (fX12_call N a1_ a2_ σ1) (fun r2 σ3 =>
  if r2 < 0 then (
    obd (fX12_works N  σ3) (fun r4 σ5 =>
    some (r4, σ5)))
  else (
    some (r2, σ3))))
def fX12_assignment_b147 (N : Nat)  (x7_ : Int32) (s0_ : Int32) (s1_ : Int32) (σ : zSt) : Option (Int32 × zSt) :=
  if s1_ < 0 ∨ 4200 ≤ s1_.toNatClampNeg then none else (
  bnd (zsA σ 19 s1_.toNatClampNeg s0_) (fun σ49 =>
  obd (fX12_next N  σ49) (fun _ σ51 =>
  obd (fX12_expression N (59 : Int32) σ51) (fun r52 σ53 =>
  if x7_ < 0 ∨ 4200 ≤ x7_.toNatClampNeg then none else (
  bnd (zsA σ53 16 x7_.toNatClampNeg r52) (fun σ54 =>
  obd (fX12_takes N (59 : Int32) σ54) (fun _ σ56 =>
  some (x7_, σ56))))))))
def fX12_assignment_b118 (N : Nat)  (x4_ : Int32) (x5_ : Int32) (x7_ : Int32) (s0_ : Int32) (s1_ : Int32) (σ : zSt) : Option (Int32 × zSt) :=
  if s1_ < 0 ∨ 4200 ≤ s1_.toNatClampNeg then none else (
  bnd (zsA σ 15 s1_.toNatClampNeg s0_) (fun σ48 =>
  if x4_ < 0 then (
    if x5_ < 0 ∨ 1400 ≤ x5_.toNatClampNeg then none else (
    fX12_assignment_b147 N  x7_ (zA σ48 9 x5_.toNatClampNeg) x7_ σ48))
  else (
    if x4_ < 0 ∨ 1400 ≤ x4_.toNatClampNeg then none else (
    fX12_assignment_b147 N  x7_ (zA σ48 14 x4_.toNatClampNeg) x7_ σ48))))
def fX12_assignment_b67 (N : Nat)  (x1_ : Int32) (x4_ : Int32) (x5_ : Int32) (s0_ : Int32) (σ : zSt) : Option (Int32 × zSt) :=
  obd (fX12_node N (30 : Int32) σ) (fun r11 σ12 =>
  obd (fX12_isSign N (61 : Int32) σ12) (fun r13 σ14 =>
  if r13 = 0 then (
    obd (fX12_isSign N (91 : Int32) σ14) (fun r15 σ16 =>
    if r15 = 0 then (
      obd (fX12_isSign N (40 : Int32) σ16) (fun r17 σ18 =>
      if r17 = 0 then (
        obd (fX12_stray N  σ18) (fun _ σ20 =>
        some (r11, σ20)))
      else (
        if s0_ = (2 : Int32) then (
          if r11 < 0 ∨ 4200 ≤ r11.toNatClampNeg then none else (
          bnd (zsA σ18 15 r11.toNatClampNeg (29 : Int32)) (fun σ21 =>
          obd (fX12_callAlone N x1_ x5_ σ21) (fun r22 σ23 =>
          if r11 < 0 ∨ 4200 ≤ r11.toNatClampNeg then none else (
          bnd (zsA σ23 16 r11.toNatClampNeg r22) (fun σ24 =>
          obd (fX12_takes N (59 : Int32) σ24) (fun _ σ26 =>
          some (r11, σ26))))))))
        else (
          obd (fX12_fails N (5 : Int32) x1_ σ18) (fun _ σ28 =>
          some (r11, σ28))))))
    else (
      if s0_ = (1 : Int32) then (
        if r11 < 0 ∨ 4200 ≤ r11.toNatClampNeg then none else (
        bnd (zsA σ16 15 r11.toNatClampNeg (28 : Int32)) (fun σ29 =>
        if x5_ < 0 ∨ 1400 ≤ x5_.toNatClampNeg then none else (
        if r11 < 0 ∨ 4200 ≤ r11.toNatClampNeg then none else (
        bnd (zsA σ29 19 r11.toNatClampNeg (zA σ29 9 x5_.toNatClampNeg)) (fun σ30 =>
        if x5_ < 0 ∨ 1400 ≤ x5_.toNatClampNeg then none else (
        if r11 < 0 ∨ 4200 ≤ r11.toNatClampNeg then none else (
        bnd (zsA σ30 20 r11.toNatClampNeg (zA σ30 10 x5_.toNatClampNeg)) (fun σ31 =>
        obd (fX12_opens N (91 : Int32) σ31) (fun _ σ33 =>
        obd (fX12_expression N (93 : Int32) σ33) (fun r34 σ35 =>
        if r11 < 0 ∨ 4200 ≤ r11.toNatClampNeg then none else (
        bnd (zsA σ35 16 r11.toNatClampNeg r34) (fun σ36 =>
        obd (fX12_closes N (93 : Int32) σ36) (fun _ σ38 =>
        obd (fX12_takes N (61 : Int32) σ38) (fun _ σ40 =>
        obd (fX12_expression N (59 : Int32) σ40) (fun r41 σ42 =>
        if r11 < 0 ∨ 4200 ≤ r11.toNatClampNeg then none else (
        bnd (zsA σ42 17 r11.toNatClampNeg r41) (fun σ43 =>
        obd (fX12_takes N (59 : Int32) σ43) (fun _ σ45 =>
        some (r11, σ45))))))))))))))))))))
      else (
        obd (fX12_fails N (5 : Int32) x1_ σ16) (fun _ σ47 =>
        some (r11, σ47))))))
  else (
    if s0_ = 0 then (
      if x4_ < 0 then (
        fX12_assignment_b118 N  x4_ x5_ r11 (26 : Int32) r11 σ14)
      else (
        fX12_assignment_b118 N  x4_ x5_ r11 (27 : Int32) r11 σ14))
    else (
      obd (fX12_fails N (5 : Int32) x1_ σ14) (fun _ σ58 =>
      some (r11, σ58))))))
def fX12_assignment_b42 (N : Nat)  (x1_ : Int32) (x4_ : Int32) (x5_ : Int32) (σ : zSt) : Option (Int32 × zSt) :=
  obd (fX12_four N x1_ σ) (fun _ σ8 =>
  obd (fX12_next N  σ8) (fun _ σ10 =>
  if x4_ < 0 then (
    if x5_ < 0 ∨ 1400 ≤ x5_.toNatClampNeg then none else (
    fX12_assignment_b67 N  x1_ x4_ x5_ (zA σ10 8 x5_.toNatClampNeg) σ10))
  else (
    fX12_assignment_b67 N  x1_ x4_ x5_ (0 : Int32) σ10)))
def fX12_assignment (N : Nat)  (σ : zSt) : Option (Int32 × zSt) :=
  bnd (zI σ 0 18) (fun x1 =>
  bnd (zL σ 0 20) (fun x2 =>
  obd (fX12_localOf N x2 σ) (fun r3 σ4 =>
  obd (fX12_named N x2 σ4) (fun r5 σ6 =>
  if 0 ≤ r3 then (
    fX12_assignment_b42 N  x1 r3 r5 σ6)
  else (
    if 0 ≤ r5 then (
      fX12_assignment_b42 N  x1 r3 r5 σ6)
    else (
      obd (fX12_fails N (3 : Int32) x1 σ6) (fun _ σ60 =>
      some ((-1 : Int32), σ60))))))))
def fX12_statement_b73 (N : Nat)   (σ : zSt) : Option (Int32 × zSt) :=
  obd (fX12_branch N  σ) (fun r8 σ9 =>
  some (r8, σ9))
def fX12_statement_b225 (N : Nat)   (σ : zSt) : Option (Int32 × zSt) :=
  obd (fX12_stray N  σ) (fun _ σ21 =>
  some ((-1 : Int32), σ21))
def fX12_statement_b39 (N : Nat)  (x1_ : Int32) (σ : zSt) : Option (Int32 × zSt) :=
  obd (fX12_four N x1_ σ) (fun _ σ57 =>
  obd (fX12_isWell N  σ57) (fun r58 σ59 =>
  if r58 = 0 then (
    some ((-1 : Int32), σ59))
  else (
    obd (fX12_beginBlock N  σ59) (fun _ σ61 =>
    some ((-1 : Int32), σ61)))))
def fX12_statement (N : Nat)  (σ : zSt) : Option (Int32 × zSt) :=
  obd (fX12_isWell N  σ) (fun r1 σ2 =>
  if r1 = 0 then (
    some ((-1 : Int32), σ2))
  else (
    bnd (zI σ2 0 18) (fun x3 =>
    obd (fX12_isSign N (123 : Int32) σ2) (fun r4 σ5 =>
    if r4 = 0 then (
      obd (fX12_isWord N (1 : Int32) σ5) (fun r6 σ7 =>
      if r6 = 0 then (
        obd (fX12_isWord N (3 : Int32) σ7) (fun r10 σ11 =>
        if r10 = 0 then (
          obd (fX12_isWord N (4 : Int32) σ11) (fun r12 σ13 =>
          if r12 = 0 then (
            obd (fX12_isWord N (5 : Int32) σ13) (fun r14 σ15 =>
            if r14 = 0 then (
              obd (fX12_isSign N (59 : Int32) σ15) (fun r16 σ17 =>
              if r16 = 0 then (
                obd (fX12_isWell N  σ17) (fun r18 σ19 =>
                if r18 = 0 then (
                  fX12_statement_b225 N   σ19)
                else (
                  if (zI σ19 0 19) = (1 : Int32) then (
                    obd (fX12_assignment N  σ19) (fun r22 σ23 =>
                    some (r22, σ23)))
                  else (
                    fX12_statement_b225 N   σ19))))
              else (
                obd (fX12_four N x3 σ17) (fun _ σ25 =>
                obd (fX12_node N (30 : Int32) σ25) (fun r26 σ27 =>
                obd (fX12_next N  σ27) (fun _ σ29 =>
                some (r26, σ29)))))))
            else (
              obd (fX12_four N x3 σ15) (fun _ σ31 =>
              obd (fX12_node N (25 : Int32) σ31) (fun r32 σ33 =>
              obd (fX12_next N  σ33) (fun _ σ35 =>
              obd (fX12_opens N (40 : Int32) σ35) (fun _ σ37 =>
              obd (fX12_expression N (41 : Int32) σ37) (fun r38 σ39 =>
              if r32 < 0 ∨ 4200 ≤ r32.toNatClampNeg then none else (
              bnd (zsA σ39 16 r32.toNatClampNeg r38) (fun σ40 =>
              obd (fX12_closes N (41 : Int32) σ40) (fun _ σ42 =>
              obd (fX12_takes N (59 : Int32) σ42) (fun _ σ44 =>
              some (r32, σ44)))))))))))))
          else (
            obd (fX12_four N x3 σ13) (fun _ σ46 =>
            obd (fX12_node N (24 : Int32) σ46) (fun r47 σ48 =>
            obd (fX12_next N  σ48) (fun _ σ50 =>
            obd (fX12_expression N (59 : Int32) σ50) (fun r51 σ52 =>
            if r47 < 0 ∨ 4200 ≤ r47.toNatClampNeg then none else (
            bnd (zsA σ52 16 r47.toNatClampNeg r51) (fun σ53 =>
            obd (fX12_takes N (59 : Int32) σ53) (fun _ σ55 =>
            some (r47, σ55)))))))))))
        else (
          fX12_statement_b73 N   σ11)))
      else (
        fX12_statement_b73 N   σ7)))
    else (
      if (zI σ5 0 37) = (40 : Int32) then (
        obd (fX12_fails N (8 : Int32) x3 σ5) (fun _ σ63 =>
        fX12_statement_b39 N  x3 σ63))
      else (
        fX12_statement_b39 N  x3 σ5))))))
def fX12_inBlock_b107 (N : Nat)  (x2_ : Int32) (s0_ : Int32) (s1_ : Int32) (σ : zSt) : Option (Int32 × zSt) :=
  if s1_ < 0 ∨ 100 ≤ s1_.toNatClampNeg then none else (
  if ¬ (s0_ = 0 ∨ s0_ = 1) then none else (
  bnd (zsA σ 25 s1_.toNatClampNeg s0_) (fun σ4 =>
  if x2_ < 0 ∨ 100 ≤ x2_.toNatClampNeg then none else (
  if (zA σ4 25 x2_.toNatClampNeg) = 0 then (
    obd (fX12_statement N  σ4) (fun r5 σ6 =>
    some (r5, σ6)))
  else (
    obd (fX12_tellLocal N  σ4) (fun r7 σ8 =>
    some (r7, σ8)))))))
def fX12_inBlock_b106 (N : Nat)  (x2_ : Int32) (s0_ : Int32) (σ : zSt) : Option (Int32 × zSt) :=
  fX12_inBlock_b107 N  x2_ (0 : Int32) s0_ σ
def fX12_inBlock (N : Nat) (a1_ : Int32) (σ : zSt) : Option (Int32 × zSt) :=
  bnd ((zI σ 0 46) - (1 : Int32)) (fun x1 =>
  if a1_ < 0 then (
    obd (fX12_isSign N (125 : Int32) σ) (fun r2 σ3 =>
    if r2 = 0 then (
      if x1 < 0 ∨ 100 ≤ x1.toNatClampNeg then none else (
      if (zA σ3 25 x1.toNatClampNeg) = 0 then (
        fX12_inBlock_b106 N  x1 x1 σ3)
      else (
        obd (fX12_isWord N (0 : Int32) σ3) (fun r9 σ10 =>
        if r9 = 0 then (
          fX12_inBlock_b106 N  x1 x1 σ10)
        else (
          fX12_inBlock_b107 N  x1 (1 : Int32) x1 σ10)))))
    else (
      obd (fX12_closes N (125 : Int32) σ3) (fun _ σ12 =>
      if x1 < 0 ∨ 100 ≤ x1.toNatClampNeg then none else (
      bnd (zsI σ12 0 30 (zA σ12 27 x1.toNatClampNeg)) (fun σ13 =>
      if x1 < 0 ∨ 100 ≤ x1.toNatClampNeg then none else (
      bnd (zsI σ13 0 34 (zA σ13 28 x1.toNatClampNeg)) (fun σ14 =>
      if x1 < 0 ∨ 100 ≤ x1.toNatClampNeg then none else (
      bnd (zsI σ14 0 33 (zA σ14 26 x1.toNatClampNeg)) (fun σ15 =>
      bnd (zsI σ15 0 46 ((zI σ15 0 46) - (1 : Int32))) (fun σ16 =>
      if x1 < 0 ∨ 100 ≤ x1.toNatClampNeg then none else (
      some (zA σ16 23 x1.toNatClampNeg, σ16)))))))))))))
  else (
    obd (fX12_append N a1_ σ) (fun _ σ18 =>
    some ((-1 : Int32), σ18))))
def fX12_inBranch_b104 (N : Nat)  (x3_ : Int32) (σ : zSt) : Option (Int32 × zSt) :=
  bnd (zsI σ 0 37 ((zI σ 0 37) - (1 : Int32))) (fun σ4 =>
  bnd (zsI σ4 0 46 ((zI σ4 0 46) - (1 : Int32))) (fun σ5 =>
  some (x3_, σ5)))
def fX12_inBranch (N : Nat) (a1_ : Int32) (σ : zSt) : Option (Int32 × zSt) :=
  if 0 ≤ a1_ then (
    bnd ((zI σ 0 46) - (1 : Int32)) (fun x1 =>
    if x1 < 0 ∨ 100 ≤ x1.toNatClampNeg then none else (
    bnd (zA σ 23 x1.toNatClampNeg) (fun x2 =>
    if x1 < 0 ∨ 100 ≤ x1.toNatClampNeg then none else (
    if (zA σ 22 x1.toNatClampNeg) = (2 : Int32) then (
      if x2 < 0 ∨ 4200 ≤ x2.toNatClampNeg then none else (
      bnd (zsA σ 18 x2.toNatClampNeg a1_) (fun σ13 =>
      bnd (zsI σ13 0 37 ((zI σ13 0 37) - (2 : Int32))) (fun σ14 =>
      bnd (zsI σ14 0 46 ((zI σ14 0 46) - (1 : Int32))) (fun σ15 =>
      some (x2, σ15))))))
    else (
      if x2 < 0 ∨ 4200 ≤ x2.toNatClampNeg then none else (
      bnd (zsA σ 17 x2.toNatClampNeg a1_) (fun σ3 =>
      if x1 < 0 ∨ 100 ≤ x1.toNatClampNeg then none else (
      if (zA σ3 22 x1.toNatClampNeg) = (1 : Int32) then (
        obd (fX12_isWord N (2 : Int32) σ3) (fun r6 σ7 =>
        if r6 = 0 then (
          fX12_inBranch_b104 N  x2 σ7)
        else (
          obd (fX12_nests N  σ7) (fun _ σ9 =>
          obd (fX12_next N  σ9) (fun _ σ11 =>
          if x1 < 0 ∨ 100 ≤ x1.toNatClampNeg then none else (
          bnd (zsA σ11 22 x1.toNatClampNeg (2 : Int32)) (fun σ12 =>
          some ((-1 : Int32), σ12))))))))
      else (
        fX12_inBranch_b104 N  x2 σ3))))))))))
  else (
    obd (fX12_statement N  σ) (fun r16 σ17 =>
    some (r16, σ17)))
def fX12_block_b59 (N : Nat) (k18 : Int32 → Int32 → zSt → Option (Int32 × zSt)) (x1_ : Int32) (s0_ : Int32) (σ : zSt) : Option (Int32 × zSt) :=
  k18 x1_ s0_ σ
def fX12_block_b18 (N : Nat)  : Nat → Int32 → Int32 → zSt → Option (Int32 × zSt)
  | 0, _, _, _ => none
  | n + 1, x1_, x2_, σ =>
    obd (fX12_isWell N  σ) (fun r6 σ7 =>
    if r6 = 0 then (
      some (x1_, σ7))
    else (
      if (zI σ7 0 46) ≤ 0 then (
        some (x1_, σ7))
      else (
        if ((zI σ7 0 46) - (1 : Int32)) < 0 ∨ 100 ≤ ((zI σ7 0 46) - (1 : Int32)).toNatClampNeg then none else (
        if (zA σ7 22 ((zI σ7 0 46) - (1 : Int32)).toNatClampNeg) = 0 then (
          obd (fX12_inBlock N x2_ σ7) (fun r10 σ11 =>
          fX12_block_b59 N (fX12_block_b18 N  n) x1_ r10 σ11))
        else (
          obd (fX12_inBranch N x2_ σ7) (fun r8 σ9 =>
          fX12_block_b59 N (fX12_block_b18 N  n) x1_ r8 σ9))))))
def fX12_block (N : Nat)  (σ : zSt) : Option (Int32 × zSt) :=
  bnd (zsI σ 0 46 (0 : Int32)) (fun σ1 =>
  obd (fX12_beginBlock N  σ1) (fun _ σ3 =>
  if (0 : Int32) < 0 ∨ 100 ≤ (0 : Int32).toNatClampNeg then none else (
  bnd (zA σ3 23 (0 : Int32).toNatClampNeg) (fun x4 =>
  bnd (-1 : Int32) (fun x5 =>
  fX12_block_b18 N  N x4 x5 σ3)))))
def fX12_tellFunction_b133 (N : Nat)  : Nat → Int32 → zSt → Option (Unit × zSt)
  | 0, _, _ => none
  | n + 1, x3_, σ =>
    if (zI σ 0 30) ≤ x3_ then (
      obd (fX12_isWell N  σ) (fun r17 σ18 =>
      if r17 = 0 then (
        some ((), σ18))
      else (
        obd (fX12_block N  σ18) (fun r19 σ20 =>
        if (zI σ18 0 35) < 0 ∨ 1400 ≤ (zI σ18 0 35).toNatClampNeg then none else (
        bnd (zsA σ20 11 (zI σ18 0 35).toNatClampNeg r19) (fun σ21 =>
        some ((), σ21)))))))
    else (
      if x3_ < 0 ∨ 1400 ≤ x3_.toNatClampNeg then none else (
      bnd (zsA σ 14 x3_.toNatClampNeg (((-2 : Int32) - (zI σ 0 30)) + x3_)) (fun σ22 =>
      bnd (x3_ + (1 : Int32)) (fun x23 =>
      fX12_tellFunction_b133 N  n x23 σ22))))
def fX12_tellFunction_b125 (N : Nat)   (σ : zSt) : Option (Unit × zSt) :=
  obd (fX12_closes N (41 : Int32) σ) (fun _ σ15 =>
  bnd (0 : Int32) (fun x16 =>
  fX12_tellFunction_b133 N  N x16 σ15))
def fX12_tellFunction_b118 (N : Nat) (k84 : zSt → Option (Unit × zSt))  (σ : zSt) : Option (Unit × zSt) :=
  obd (fX12_parameter N  σ) (fun _ σ27 =>
  k84  σ27)
def fX12_tellFunction_b84 (N : Nat)  : Nat → zSt → Option (Unit × zSt)
  | 0, _ => none
  | n + 1, σ =>
    obd (fX12_isWell N  σ) (fun r12 σ13 =>
    if r12 = 0 then (
      fX12_tellFunction_b125 N   σ13)
    else (
      obd (fX12_isSign N (41 : Int32) σ13) (fun r24 σ25 =>
      if r24 = 0 then (
        if (zI σ25 0 35) < 0 ∨ 1400 ≤ (zI σ25 0 35).toNatClampNeg then none else (
        if (zA σ25 10 (zI σ25 0 35).toNatClampNeg) ≤ 0 then (
          fX12_tellFunction_b118 N (fX12_tellFunction_b84 N  n)  σ25)
        else (
          obd (fX12_takes N (44 : Int32) σ25) (fun _ σ29 =>
          fX12_tellFunction_b118 N (fX12_tellFunction_b84 N  n)  σ29))))
      else (
        fX12_tellFunction_b125 N   σ25))))
def fX12_tellFunction (N : Nat) (a1_ : Int64) (σ : zSt) : Option (Unit × zSt) :=
  bnd (zsI σ 0 35 (zI σ 0 22)) (fun σ1 =>
  if (zI σ1 0 22) < 0 ∨ 1400 ≤ (zI σ1 0 22).toNatClampNeg then none else (
  bnd (zsB σ1 7 (zI σ1 0 22).toNatClampNeg a1_) (fun σ2 =>
  if (zI σ2 0 22) < 0 ∨ 1400 ≤ (zI σ2 0 22).toNatClampNeg then none else (
  bnd (zsA σ2 8 (zI σ2 0 22).toNatClampNeg (2 : Int32)) (fun σ3 =>
  if (zI σ3 0 22) < 0 ∨ 1400 ≤ (zI σ3 0 22).toNatClampNeg then none else (
  bnd (zsA σ3 10 (zI σ3 0 22).toNatClampNeg (0 : Int32)) (fun σ4 =>
  if (zI σ4 0 22) < 0 ∨ 1400 ≤ (zI σ4 0 22).toNatClampNeg then none else (
  bnd (zsA σ4 12 (zI σ4 0 22).toNatClampNeg (0 : Int32)) (fun σ5 =>
  if (zI σ5 0 22) < 0 ∨ 1400 ≤ (zI σ5 0 22).toNatClampNeg then none else (
  bnd (zsA σ5 11 (zI σ5 0 22).toNatClampNeg (-1 : Int32)) (fun σ6 =>
  bnd (zsI σ6 0 22 ((zI σ6 0 22) + (1 : Int32))) (fun σ7 =>
  bnd (zsI σ7 0 30 (0 : Int32)) (fun σ8 =>
  bnd (zsI σ8 0 34 (0 : Int32)) (fun σ9 =>
  obd (fX12_opens N (40 : Int32) σ9) (fun _ σ11 =>
  fX12_tellFunction_b84 N  N  σ11)))))))))))))))
def fX12_arraySize_b43 (N : Nat)   (σ : zSt) : Option (Int32 × zSt) :=
  obd (fX12_fails N (11 : Int32) (zI σ 0 18) σ) (fun _ σ4 =>
  some ((0 : Int32), σ4))
def fX12_arraySize (N : Nat)  (σ : zSt) : Option (Int32 × zSt) :=
  obd (fX12_isWell N  σ) (fun r1 σ2 =>
  if r1 = 0 then (
    some ((0 : Int32), σ2))
  else (
    if (zI σ2 0 19) = (2 : Int32) then (
      if (lg_cmp (zL σ2 0 20) (1 : Int64)) < 0 then (
        fX12_arraySize_b43 N   σ2)
      else (
        if (lg_cmp (zL σ2 0 20) (1000 : Int64)) ≤ 0 then (
          bnd ((zL σ2 0 20).toInt32) (fun x5 =>
          obd (fX12_next N  σ2) (fun _ σ7 =>
          some (x5, σ7))))
        else (
          fX12_arraySize_b43 N   σ2)))
    else (
      obd (fX12_stray N  σ2) (fun _ σ9 =>
      some ((0 : Int32), σ9)))))
def fX12_declaration_b155 (N : Nat)  (x4_ : Int32) (s0_ : Int32) (s1_ : Int32) (σ : zSt) : Option (Unit × zSt) :=
  if s1_ < 0 ∨ 1400 ≤ s1_.toNatClampNeg then none else (
  bnd (zsA σ 8 s1_.toNatClampNeg s0_) (fun σ21 =>
  if (zI σ21 0 22) < 0 ∨ 1400 ≤ (zI σ21 0 22).toNatClampNeg then none else (
  bnd (zsA σ21 9 (zI σ21 0 22).toNatClampNeg (zI σ21 0 29)) (fun σ22 =>
  if (zI σ22 0 22) < 0 ∨ 1400 ≤ (zI σ22 0 22).toNatClampNeg then none else (
  bnd (zsA σ22 10 (zI σ22 0 22).toNatClampNeg x4_) (fun σ23 =>
  bnd (zsI σ23 0 29 ((zI σ23 0 29) + x4_)) (fun σ24 =>
  bnd (zsI σ24 0 22 ((zI σ24 0 22) + (1 : Int32))) (fun σ25 =>
  some ((), σ25)))))))))
def fX12_declaration_b113 (N : Nat)  (x1_ : Int64) (x4_ : Int32) (x5_ : Int32) (σ : zSt) : Option (Unit × zSt) :=
  obd (fX12_takes N (59 : Int32) σ) (fun _ σ17 =>
  obd (fX12_isWell N  σ17) (fun r18 σ19 =>
  if r18 = 0 then (
    some ((), σ19))
  else (
    if (zI σ19 0 22) < 0 ∨ 1400 ≤ (zI σ19 0 22).toNatClampNeg then none else (
    bnd (zsB σ19 7 (zI σ19 0 22).toNatClampNeg x1_) (fun σ20 =>
    if x5_ = 0 then (
      fX12_declaration_b155 N  x4_ (0 : Int32) (zI σ20 0 22) σ20)
    else (
      fX12_declaration_b155 N  x4_ (1 : Int32) (zI σ20 0 22) σ20))))))
def fX12_declaration (N : Nat)  (σ : zSt) : Option (Unit × zSt) :=
  obd (fX12_isWord N (0 : Int32) σ) (fun r1 σ2 =>
  if r1 = 0 then (
    obd (fX12_stray N  σ2) (fun _ σ41 =>
    some ((), σ41)))
  else (
    obd (fX12_next N  σ2) (fun _ σ4 =>
    if (zI σ4 0 19) = (1 : Int32) then (
      bnd (zL σ4 0 20) (fun x5 =>
      bnd (zI σ4 0 18) (fun x6 =>
      obd (fX12_named N x5 σ4) (fun r7 σ8 =>
      if r7 < 0 then (
        obd (fX12_next N  σ8) (fun _ σ10 =>
        obd (fX12_isSign N (40 : Int32) σ10) (fun r11 σ12 =>
        if r11 = 0 then (
          bnd (1 : Int32) (fun x13 =>
          obd (fX12_isSign N (91 : Int32) σ12) (fun r14 σ15 =>
          if r14 = 0 then (
            fX12_declaration_b113 N  x5 x13 r14 σ15)
          else (
            obd (fX12_opens N (91 : Int32) σ15) (fun _ σ27 =>
            obd (fX12_arraySize N  σ27) (fun r28 σ29 =>
            obd (fX12_closes N (93 : Int32) σ29) (fun _ σ31 =>
            fX12_declaration_b113 N  x5 r28 r14 σ31)))))))
        else (
          obd (fX12_four N x6 σ12) (fun _ σ33 =>
          obd (fX12_tellFunction N x5 σ33) (fun _ σ35 =>
          some ((), σ35)))))))
      else (
        obd (fX12_fails N (4 : Int32) x6 σ8) (fun _ σ37 =>
        some ((), σ37)))))))
    else (
      obd (fX12_stray N  σ4) (fun _ σ39 =>
      some ((), σ39))))))
def fX12_read_b98 (N : Nat)   (σ : zSt) : Option (Unit × zSt) :=
  obd (fX12_fails N (7 : Int32) (zI σ 0 16) σ) (fun _ σ17 =>
  some ((), σ17))
def fX12_read_b60 (N : Nat)   (σ : zSt) : Option (Unit × zSt) :=
  obd (fX12_named N (1835100526 : Int64) σ) (fun r12 σ13 =>
  obd (fX12_isWell N  σ13) (fun r14 σ15 =>
  if r14 = 0 then (
    some ((), σ15))
  else (
    if r12 < 0 then (
      fX12_read_b98 N   σ15)
    else (
      if r12 < 0 ∨ 1400 ≤ r12.toNatClampNeg then none else (
      if (zA σ15 8 r12.toNatClampNeg) = (2 : Int32) then (
        if r12 < 0 ∨ 1400 ≤ r12.toNatClampNeg then none else (
        if (zA σ15 10 r12.toNatClampNeg) = 0 then (
          some ((), σ15))
        else (
          fX12_read_b98 N   σ15)))
      else (
        fX12_read_b98 N   σ15))))))
def fX12_read_b39 (N : Nat)  : Nat → zSt → Option (Unit × zSt)
  | 0, _ => none
  | n + 1, σ =>
    obd (fX12_isWell N  σ) (fun r10 σ11 =>
    if r10 = 0 then (
      fX12_read_b60 N   σ11)
    else (
      if (zI σ11 0 19) = 0 then (
        fX12_read_b60 N   σ11)
      else (
        obd (fX12_declaration N  σ11) (fun _ σ19 =>
        fX12_read_b39 N  n  σ19))))
def fX12_read (N : Nat)  (σ : zSt) : Option (Unit × zSt) :=
  bnd (zsI σ 0 21 (0 : Int32)) (fun σ1 =>
  bnd (zsI σ1 0 17 (0 : Int32)) (fun σ2 =>
  bnd (zsI σ2 0 22 (0 : Int32)) (fun σ3 =>
  bnd (zsI σ3 0 29 (0 : Int32)) (fun σ4 =>
  bnd (zsI σ4 0 38 (0 : Int32)) (fun σ5 =>
  bnd (zsI σ5 0 36 (0 : Int32)) (fun σ6 =>
  bnd (zsI σ6 0 37 (0 : Int32)) (fun σ7 =>
  obd (fX12_next N  σ7) (fun _ σ9 =>
  fX12_read_b39 N  N  σ9))))))))
def fX12_put_b20 (N : Nat)   (σ : zSt) : Option (Unit × zSt) :=
  bnd (zsI σ 0 61 ((zI σ 0 61) + (1 : Int32))) (fun σ1 =>
  some ((), σ1))
def fX12_put (N : Nat) (a1_ : Int32) (σ : zSt) : Option (Unit × zSt) :=
  if (30000 : Int32) ≤ (zI σ 0 61) then (
    fX12_put_b20 N   σ)
  else (
    if (zI σ 0 61) < 0 ∨ 30000 ≤ (zI σ 0 61).toNatClampNeg then none else (
    bnd (zsA σ 34 (zI σ 0 61).toNatClampNeg a1_) (fun σ2 =>
    fX12_put_b20 N   σ2)))
def fX12_task (N : Nat) (a1_ : Int32) (a2_ : Int32) (σ : zSt) : Option (Unit × zSt) :=
  if (zI σ 0 63) < 0 ∨ 6000 ≤ (zI σ 0 63).toNatClampNeg then none else (
  bnd (zsA σ 36 (zI σ 0 63).toNatClampNeg a1_) (fun σ1 =>
  if (zI σ1 0 63) < 0 ∨ 6000 ≤ (zI σ1 0 63).toNatClampNeg then none else (
  bnd (zsA σ1 37 (zI σ1 0 63).toNatClampNeg a2_) (fun σ2 =>
  bnd (zsI σ2 0 63 ((zI σ2 0 63) + (1 : Int32))) (fun σ3 =>
  some ((), σ3))))))
def fX12_begins2 (N : Nat) (a1_ : Int32) (σ : zSt) : Option (Unit × zSt) :=
  if a1_ < 0 ∨ 4200 ≤ a1_.toNatClampNeg then none else (
  bnd (zA σ 15 a1_.toNatClampNeg) (fun x1 =>
  if x1 = (20 : Int32) then (
    if a1_ < 0 ∨ 4200 ≤ a1_.toNatClampNeg then none else (
    if (zA σ 16 a1_.toNatClampNeg) < 0 then (
      some ((), σ))
    else (
      if a1_ < 0 ∨ 4200 ≤ a1_.toNatClampNeg then none else (
      obd (fX12_task N (1 : Int32) (zA σ 16 a1_.toNatClampNeg) σ) (fun _ σ3 =>
      some ((), σ3))))))
  else if x1 = (21 : Int32) then (
    obd (fX12_task N (4 : Int32) a1_ σ) (fun _ σ5 =>
    if a1_ < 0 ∨ 4200 ≤ a1_.toNatClampNeg then none else (
    if (zA σ5 16 a1_.toNatClampNeg) < 0 then (
      obd (fX12_put N (1 : Int32) σ5) (fun _ σ7 =>
      obd (fX12_put N (0 : Int32) σ7) (fun _ σ9 =>
      some ((), σ9))))
    else (
      if a1_ < 0 ∨ 4200 ≤ a1_.toNatClampNeg then none else (
      obd (fX12_task N (2 : Int32) (zA σ5 16 a1_.toNatClampNeg) σ5) (fun _ σ11 =>
      some ((), σ11)))))))
  else if x1 = (22 : Int32) then (
    if a1_ < 0 ∨ 4200 ≤ a1_.toNatClampNeg then none else (
    bnd (zsA σ 38 a1_.toNatClampNeg (zI σ 0 61)) (fun σ12 =>
    obd (fX12_task N (5 : Int32) a1_ σ12) (fun _ σ14 =>
    if a1_ < 0 ∨ 4200 ≤ a1_.toNatClampNeg then none else (
    obd (fX12_task N (2 : Int32) (zA σ14 16 a1_.toNatClampNeg) σ14) (fun _ σ16 =>
    some ((), σ16)))))))
  else if x1 = (23 : Int32) then (
    if a1_ < 0 ∨ 4200 ≤ a1_.toNatClampNeg then none else (
    bnd (zsA σ 38 a1_.toNatClampNeg (zI σ 0 61)) (fun σ17 =>
    obd (fX12_task N (5 : Int32) a1_ σ17) (fun _ σ19 =>
    if a1_ < 0 ∨ 4200 ≤ a1_.toNatClampNeg then none else (
    obd (fX12_task N (2 : Int32) (zA σ19 16 a1_.toNatClampNeg) σ19) (fun _ σ21 =>
    some ((), σ21)))))))
  else if x1 = (24 : Int32) then (
    obd (fX12_task N (4 : Int32) a1_ σ) (fun _ σ23 =>
    if a1_ < 0 ∨ 4200 ≤ a1_.toNatClampNeg then none else (
    if (zA σ23 16 a1_.toNatClampNeg) < 0 then (
      obd (fX12_put N (1 : Int32) σ23) (fun _ σ25 =>
      obd (fX12_put N (0 : Int32) σ25) (fun _ σ27 =>
      some ((), σ27))))
    else (
      if a1_ < 0 ∨ 4200 ≤ a1_.toNatClampNeg then none else (
      obd (fX12_task N (2 : Int32) (zA σ23 16 a1_.toNatClampNeg) σ23) (fun _ σ29 =>
      some ((), σ29)))))))
  else if x1 = (25 : Int32) then (
    obd (fX12_task N (4 : Int32) a1_ σ) (fun _ σ31 =>
    if a1_ < 0 ∨ 4200 ≤ a1_.toNatClampNeg then none else (
    if (zA σ31 16 a1_.toNatClampNeg) < 0 then (
      obd (fX12_put N (1 : Int32) σ31) (fun _ σ33 =>
      obd (fX12_put N (0 : Int32) σ33) (fun _ σ35 =>
      some ((), σ35))))
    else (
      if a1_ < 0 ∨ 4200 ≤ a1_.toNatClampNeg then none else (
      obd (fX12_task N (2 : Int32) (zA σ31 16 a1_.toNatClampNeg) σ31) (fun _ σ37 =>
      some ((), σ37)))))))
  else if x1 = (26 : Int32) then (
    obd (fX12_task N (4 : Int32) a1_ σ) (fun _ σ39 =>
    if a1_ < 0 ∨ 4200 ≤ a1_.toNatClampNeg then none else (
    if (zA σ39 16 a1_.toNatClampNeg) < 0 then (
      obd (fX12_put N (1 : Int32) σ39) (fun _ σ41 =>
      obd (fX12_put N (0 : Int32) σ41) (fun _ σ43 =>
      some ((), σ43))))
    else (
      if a1_ < 0 ∨ 4200 ≤ a1_.toNatClampNeg then none else (
      obd (fX12_task N (2 : Int32) (zA σ39 16 a1_.toNatClampNeg) σ39) (fun _ σ45 =>
      some ((), σ45)))))))
  else if x1 = (27 : Int32) then (
    obd (fX12_task N (4 : Int32) a1_ σ) (fun _ σ47 =>
    if a1_ < 0 ∨ 4200 ≤ a1_.toNatClampNeg then none else (
    if (zA σ47 16 a1_.toNatClampNeg) < 0 then (
      obd (fX12_put N (1 : Int32) σ47) (fun _ σ49 =>
      obd (fX12_put N (0 : Int32) σ49) (fun _ σ51 =>
      some ((), σ51))))
    else (
      if a1_ < 0 ∨ 4200 ≤ a1_.toNatClampNeg then none else (
      obd (fX12_task N (2 : Int32) (zA σ47 16 a1_.toNatClampNeg) σ47) (fun _ σ53 =>
      some ((), σ53)))))))
  else if x1 = (28 : Int32) then (
    obd (fX12_task N (4 : Int32) a1_ σ) (fun _ σ55 =>
    if a1_ < 0 ∨ 4200 ≤ a1_.toNatClampNeg then none else (
    obd (fX12_task N (2 : Int32) (zA σ55 17 a1_.toNatClampNeg) σ55) (fun _ σ57 =>
    if a1_ < 0 ∨ 4200 ≤ a1_.toNatClampNeg then none else (
    obd (fX12_task N (2 : Int32) (zA σ57 16 a1_.toNatClampNeg) σ57) (fun _ σ59 =>
    some ((), σ59)))))))
  else if x1 = (29 : Int32) then (
    obd (fX12_task N (4 : Int32) a1_ σ) (fun _ σ61 =>
    if a1_ < 0 ∨ 4200 ≤ a1_.toNatClampNeg then none else (
    if (zA σ61 16 a1_.toNatClampNeg) < 0 then (
      obd (fX12_put N (1 : Int32) σ61) (fun _ σ63 =>
      obd (fX12_put N (0 : Int32) σ63) (fun _ σ65 =>
      some ((), σ65))))
    else (
      if a1_ < 0 ∨ 4200 ≤ a1_.toNatClampNeg then none else (
      obd (fX12_task N (2 : Int32) (zA σ61 16 a1_.toNatClampNeg) σ61) (fun _ σ67 =>
      some ((), σ67)))))))
  else if x1 = (30 : Int32) then (
    some ((), σ))
  else (
    obd (fX12_task N (4 : Int32) a1_ σ) (fun _ σ69 =>
    if a1_ < 0 ∨ 4200 ≤ a1_.toNatClampNeg then none else (
    if (zA σ69 16 a1_.toNatClampNeg) < 0 then (
      obd (fX12_put N (1 : Int32) σ69) (fun _ σ71 =>
      obd (fX12_put N (0 : Int32) σ71) (fun _ σ73 =>
      some ((), σ73))))
    else (
      if a1_ < 0 ∨ 4200 ≤ a1_.toNatClampNeg then none else (
      obd (fX12_task N (2 : Int32) (zA σ69 16 a1_.toNatClampNeg) σ69) (fun _ σ75 =>
      some ((), σ75)))))))))
def fX12_beginsE_b94 (N : Nat)  (x1_ : Int32) (s0_ : Int32) (σ : zSt) : Option (Unit × zSt) :=
  obd (fX12_put N s0_ σ) (fun _ σ7 =>
  if x1_ < 0 ∨ 4200 ≤ x1_.toNatClampNeg then none else (
  obd (fX12_put N (zA σ7 19 x1_.toNatClampNeg) σ7) (fun _ σ9 =>
  some ((), σ9))))
def fX12_beginsE (N : Nat) (a1_ : Int32) (σ : zSt) : Option (Unit × zSt) :=
  if a1_ < 0 ∨ 4200 ≤ a1_.toNatClampNeg then none else (
  bnd (zA σ 15 a1_.toNatClampNeg) (fun x1 =>
  if x1 = (1 : Int32) then (
    obd (fX12_put N (1 : Int32) σ) (fun _ σ3 =>
    if a1_ < 0 ∨ 4200 ≤ a1_.toNatClampNeg then none else (
    obd (fX12_put N (zA σ3 19 a1_.toNatClampNeg) σ3) (fun _ σ5 =>
    some ((), σ5)))))
  else if x1 = (2 : Int32) then (
    if a1_ < 0 ∨ 4200 ≤ a1_.toNatClampNeg then none else (
    if (zA σ 15 a1_.toNatClampNeg) = (2 : Int32) then (
      fX12_beginsE_b94 N  a1_ (2 : Int32) σ)
    else (
      fX12_beginsE_b94 N  a1_ (4 : Int32) σ)))
  else if x1 = (3 : Int32) then (
    if a1_ < 0 ∨ 4200 ≤ a1_.toNatClampNeg then none else (
    if (zA σ 15 a1_.toNatClampNeg) = (2 : Int32) then (
      fX12_beginsE_b94 N  a1_ (2 : Int32) σ)
    else (
      fX12_beginsE_b94 N  a1_ (4 : Int32) σ)))
  else if x1 = (4 : Int32) then (
    obd (fX12_task N (4 : Int32) a1_ σ) (fun _ σ11 =>
    if a1_ < 0 ∨ 4200 ≤ a1_.toNatClampNeg then none else (
    obd (fX12_task N (2 : Int32) (zA σ11 16 a1_.toNatClampNeg) σ11) (fun _ σ13 =>
    some ((), σ13)))))
  else if x1 = (5 : Int32) then (
    obd (fX12_task N (4 : Int32) a1_ σ) (fun _ σ15 =>
    if a1_ < 0 ∨ 4200 ≤ a1_.toNatClampNeg then none else (
    obd (fX12_task N (2 : Int32) (zA σ15 16 a1_.toNatClampNeg) σ15) (fun _ σ17 =>
    some ((), σ17)))))
  else if x1 = (6 : Int32) then (
    obd (fX12_task N (4 : Int32) a1_ σ) (fun _ σ19 =>
    if a1_ < 0 ∨ 4200 ≤ a1_.toNatClampNeg then none else (
    obd (fX12_task N (2 : Int32) (zA σ19 17 a1_.toNatClampNeg) σ19) (fun _ σ21 =>
    if a1_ < 0 ∨ 4200 ≤ a1_.toNatClampNeg then none else (
    obd (fX12_task N (2 : Int32) (zA σ21 16 a1_.toNatClampNeg) σ21) (fun _ σ23 =>
    some ((), σ23)))))))
  else if x1 = (7 : Int32) then (
    obd (fX12_task N (5 : Int32) a1_ σ) (fun _ σ25 =>
    if a1_ < 0 ∨ 4200 ≤ a1_.toNatClampNeg then none else (
    obd (fX12_task N (2 : Int32) (zA σ25 16 a1_.toNatClampNeg) σ25) (fun _ σ27 =>
    some ((), σ27)))))
  else if x1 = (8 : Int32) then (
    obd (fX12_task N (5 : Int32) a1_ σ) (fun _ σ29 =>
    if a1_ < 0 ∨ 4200 ≤ a1_.toNatClampNeg then none else (
    obd (fX12_task N (2 : Int32) (zA σ29 16 a1_.toNatClampNeg) σ29) (fun _ σ31 =>
    some ((), σ31)))))
  else if x1 = (9 : Int32) then (
    obd (fX12_task N (4 : Int32) a1_ σ) (fun _ σ33 =>
    if a1_ < 0 ∨ 4200 ≤ a1_.toNatClampNeg then none else (
    if (zA σ33 16 a1_.toNatClampNeg) < 0 then (
      some ((), σ33))
    else (
      if a1_ < 0 ∨ 4200 ≤ a1_.toNatClampNeg then none else (
      obd (fX12_task N (3 : Int32) (zA σ33 16 a1_.toNatClampNeg) σ33) (fun _ σ35 =>
      some ((), σ35)))))))
  else if x1 = (10 : Int32) then (
    obd (fX12_put N (35 : Int32) σ) (fun _ σ37 =>
    some ((), σ37)))
  else (
    obd (fX12_task N (4 : Int32) a1_ σ) (fun _ σ39 =>
    if a1_ < 0 ∨ 4200 ≤ a1_.toNatClampNeg then none else (
    obd (fX12_task N (2 : Int32) (zA σ39 16 a1_.toNatClampNeg) σ39) (fun _ σ41 =>
    some ((), σ41)))))))
def fX12_doneS (N : Nat) (a1_ : Int32) (σ : zSt) : Option (Unit × zSt) :=
  if a1_ < 0 ∨ 4200 ≤ a1_.toNatClampNeg then none else (
  bnd (zA σ 15 a1_.toNatClampNeg) (fun x1 =>
  if x1 = (21 : Int32) then (
    obd (fX12_put N (5 : Int32) σ) (fun _ σ3 =>
    if a1_ < 0 ∨ 4200 ≤ a1_.toNatClampNeg then none else (
    obd (fX12_put N (zA σ3 19 a1_.toNatClampNeg) σ3) (fun _ σ5 =>
    some ((), σ5)))))
  else if x1 = (22 : Int32) then (
    obd (fX12_put N (36 : Int32) σ) (fun _ σ7 =>
    some ((), σ7)))
  else if x1 = (23 : Int32) then (
    obd (fX12_put N (36 : Int32) σ) (fun _ σ9 =>
    some ((), σ9)))
  else if x1 = (24 : Int32) then (
    obd (fX12_put N (33 : Int32) σ) (fun _ σ11 =>
    if (zI σ11 0 35) < 0 ∨ 1400 ≤ (zI σ11 0 35).toNatClampNeg then none else (
    obd (fX12_put N (zA σ11 10 (zI σ11 0 35).toNatClampNeg) σ11) (fun _ σ13 =>
    some ((), σ13)))))
  else if x1 = (25 : Int32) then (
    obd (fX12_put N (34 : Int32) σ) (fun _ σ15 =>
    some ((), σ15)))
  else if x1 = (26 : Int32) then (
    obd (fX12_put N (3 : Int32) σ) (fun _ σ17 =>
    if a1_ < 0 ∨ 4200 ≤ a1_.toNatClampNeg then none else (
    obd (fX12_put N (zA σ17 19 a1_.toNatClampNeg) σ17) (fun _ σ19 =>
    some ((), σ19)))))
  else if x1 = (27 : Int32) then (
    obd (fX12_put N (5 : Int32) σ) (fun _ σ21 =>
    if a1_ < 0 ∨ 4200 ≤ a1_.toNatClampNeg then none else (
    obd (fX12_put N (zA σ21 19 a1_.toNatClampNeg) σ21) (fun _ σ23 =>
    some ((), σ23)))))
  else if x1 = (28 : Int32) then (
    obd (fX12_put N (7 : Int32) σ) (fun _ σ25 =>
    if a1_ < 0 ∨ 4200 ≤ a1_.toNatClampNeg then none else (
    obd (fX12_put N (zA σ25 19 a1_.toNatClampNeg) σ25) (fun _ σ27 =>
    if a1_ < 0 ∨ 4200 ≤ a1_.toNatClampNeg then none else (
    obd (fX12_put N (zA σ27 20 a1_.toNatClampNeg) σ27) (fun _ σ29 =>
    some ((), σ29)))))))
  else (
    obd (fX12_put N (36 : Int32) σ) (fun _ σ31 =>
    some ((), σ31)))))
def fX12_jump (N : Nat) (a1_ : Int32) (σ : zSt) : Option (Int32 × zSt) :=
  obd (fX12_put N a1_ σ) (fun _ σ2 =>
  obd (fX12_put N (0 : Int32) σ2) (fun _ σ4 =>
  some ((zI σ4 0 61) - (1 : Int32), σ4)))
def fX12_land (N : Nat) (a1_ : Int32) (σ : zSt) : Option (Unit × zSt) :=
  if (30000 : Int32) ≤ a1_ then (
    some ((), σ))
  else (
    if a1_ < 0 ∨ 30000 ≤ a1_.toNatClampNeg then none else (
    bnd (zsA σ 34 a1_.toNatClampNeg (zI σ 0 61)) (fun σ1 =>
    some ((), σ1))))
def fX12_goesOnS_b164 (N : Nat)  (x2_ : Int32) (σ : zSt) : Option (Unit × zSt) :=
  if x2_ < 0 ∨ 4200 ≤ x2_.toNatClampNeg then none else (
  obd (fX12_land N (zA σ 39 x2_.toNatClampNeg) σ) (fun _ σ2 =>
  some ((), σ2)))
def fX12_goesOnS_b58 (N : Nat)  (x2_ : Int32) (s0_ : Int32) (σ : zSt) : Option (Unit × zSt) :=
  obd (fX12_task N s0_ x2_ σ) (fun _ σ21 =>
  if x2_ < 0 ∨ 4200 ≤ x2_.toNatClampNeg then none else (
  obd (fX12_task N (0 : Int32) (zA σ21 17 x2_.toNatClampNeg) σ21) (fun _ σ23 =>
  some ((), σ23))))
def fX12_goesOnS_b51 (N : Nat)  (x2_ : Int32) (σ : zSt) : Option (Unit × zSt) :=
  fX12_goesOnS_b58 N  x2_ (7 : Int32) σ
def fX12_goesOnS (N : Nat) (a1_ : Int32) (a2_ : Int32) (σ : zSt) : Option (Unit × zSt) :=
  if a1_ = (4 : Int32) then (
    obd (fX12_doneS N a2_ σ) (fun _ σ25 =>
    some ((), σ25)))
  else (
    if a1_ = (5 : Int32) then (
      obd (fX12_jump N (31 : Int32) σ) (fun r17 σ18 =>
      if a2_ < 0 ∨ 4200 ≤ a2_.toNatClampNeg then none else (
      bnd (zsA σ18 39 a2_.toNatClampNeg r17) (fun σ19 =>
      if a2_ < 0 ∨ 4200 ≤ a2_.toNatClampNeg then none else (
      if (zA σ19 15 a2_.toNatClampNeg) = (23 : Int32) then (
        fX12_goesOnS_b51 N  a2_ σ19)
      else (
        if a2_ < 0 ∨ 4200 ≤ a2_.toNatClampNeg then none else (
        if 0 ≤ (zA σ19 18 a2_.toNatClampNeg) then (
          fX12_goesOnS_b58 N  a2_ (6 : Int32) σ19)
        else (
          fX12_goesOnS_b51 N  a2_ σ19))))))))
    else (
      if a1_ = (6 : Int32) then (
        obd (fX12_jump N (30 : Int32) σ) (fun r7 σ8 =>
        if a2_ < 0 ∨ 4200 ≤ a2_.toNatClampNeg then none else (
        bnd (zsA σ8 40 a2_.toNatClampNeg r7) (fun σ9 =>
        if a2_ < 0 ∨ 4200 ≤ a2_.toNatClampNeg then none else (
        obd (fX12_land N (zA σ9 39 a2_.toNatClampNeg) σ9) (fun _ σ11 =>
        if a2_ < 0 ∨ 4200 ≤ a2_.toNatClampNeg then none else (
        if a2_ < 0 ∨ 4200 ≤ a2_.toNatClampNeg then none else (
        bnd (zsA σ11 39 a2_.toNatClampNeg (zA σ11 40 a2_.toNatClampNeg)) (fun σ12 =>
        obd (fX12_task N (7 : Int32) a2_ σ12) (fun _ σ14 =>
        if a2_ < 0 ∨ 4200 ≤ a2_.toNatClampNeg then none else (
        obd (fX12_task N (0 : Int32) (zA σ14 18 a2_.toNatClampNeg) σ14) (fun _ σ16 =>
        some ((), σ16)))))))))))))
      else (
        if a2_ < 0 ∨ 4200 ≤ a2_.toNatClampNeg then none else (
        if (zA σ 15 a2_.toNatClampNeg) = (23 : Int32) then (
          obd (fX12_put N (30 : Int32) σ) (fun _ σ4 =>
          if a2_ < 0 ∨ 4200 ≤ a2_.toNatClampNeg then none else (
          obd (fX12_put N (zA σ4 38 a2_.toNatClampNeg) σ4) (fun _ σ6 =>
          fX12_goesOnS_b164 N  a2_ σ6))))
        else (
          fX12_goesOnS_b164 N  a2_ σ)))))
def fX12_doneE (N : Nat) (a1_ : Int32) (σ : zSt) : Option (Unit × zSt) :=
  if a1_ < 0 ∨ 4200 ≤ a1_.toNatClampNeg then none else (
  bnd (zA σ 15 a1_.toNatClampNeg) (fun x1 =>
  if x1 = (4 : Int32) then (
    obd (fX12_put N (6 : Int32) σ) (fun _ σ3 =>
    if a1_ < 0 ∨ 4200 ≤ a1_.toNatClampNeg then none else (
    obd (fX12_put N (zA σ3 19 a1_.toNatClampNeg) σ3) (fun _ σ5 =>
    if a1_ < 0 ∨ 4200 ≤ a1_.toNatClampNeg then none else (
    obd (fX12_put N (zA σ5 20 a1_.toNatClampNeg) σ5) (fun _ σ7 =>
    some ((), σ7)))))))
  else if x1 = (9 : Int32) then (
    obd (fX12_put N (32 : Int32) σ) (fun _ σ9 =>
    if a1_ < 0 ∨ 4200 ≤ a1_.toNatClampNeg then none else (
    if (zA σ9 19 a1_.toNatClampNeg) < 0 ∨ 1400 ≤ (zA σ9 19 a1_.toNatClampNeg).toNatClampNeg then none else (
    obd (fX12_put N (zA σ9 35 (zA σ9 19 a1_.toNatClampNeg).toNatClampNeg) σ9) (fun _ σ11 =>
    if a1_ < 0 ∨ 4200 ≤ a1_.toNatClampNeg then none else (
    obd (fX12_put N (zA σ11 20 a1_.toNatClampNeg) σ11) (fun _ σ13 =>
    some ((), σ13))))))))
  else (
    if a1_ < 0 ∨ 4200 ≤ a1_.toNatClampNeg then none else (
    obd (fX12_put N (zA σ 19 a1_.toNatClampNeg) σ) (fun _ σ15 =>
    some ((), σ15))))))
def fX12_goesOnE_b154 (N : Nat)  (x2_ : Int32) (x3_ : Int32) (σ : zSt) : Option (Unit × zSt) :=
  obd (fX12_put N (1 : Int32) σ) (fun _ σ13 =>
  obd (fX12_put N (0 : Int32) σ13) (fun _ σ15 =>
  obd (fX12_land N x3_ σ15) (fun _ σ17 =>
  if x2_ < 0 ∨ 4200 ≤ x2_.toNatClampNeg then none else (
  if (zA σ17 15 x2_.toNatClampNeg) = (8 : Int32) then (
    if x2_ < 0 ∨ 4200 ≤ x2_.toNatClampNeg then none else (
    obd (fX12_land N (zA σ17 40 x2_.toNatClampNeg) σ17) (fun _ σ19 =>
    some ((), σ19))))
  else (
    some ((), σ17))))))
def fX12_goesOnE_b73 (N : Nat)  (x2_ : Int32) (σ : zSt) : Option (Unit × zSt) :=
  obd (fX12_task N (7 : Int32) x2_ σ) (fun _ σ26 =>
  if x2_ < 0 ∨ 4200 ≤ x2_.toNatClampNeg then none else (
  obd (fX12_task N (2 : Int32) (zA σ26 17 x2_.toNatClampNeg) σ26) (fun _ σ28 =>
  some ((), σ28))))
def fX12_goesOnE (N : Nat) (a1_ : Int32) (a2_ : Int32) (σ : zSt) : Option (Unit × zSt) :=
  if a1_ = (4 : Int32) then (
    obd (fX12_doneE N a2_ σ) (fun _ σ39 =>
    some ((), σ39)))
  else (
    if a1_ = (5 : Int32) then (
      obd (fX12_jump N (31 : Int32) σ) (fun r22 σ23 =>
      if a2_ < 0 ∨ 4200 ≤ a2_.toNatClampNeg then none else (
      bnd (zsA σ23 38 a2_.toNatClampNeg r22) (fun σ24 =>
      if a2_ < 0 ∨ 4200 ≤ a2_.toNatClampNeg then none else (
      if (zA σ24 15 a2_.toNatClampNeg) = (8 : Int32) then (
        obd (fX12_put N (1 : Int32) σ24) (fun _ σ30 =>
        obd (fX12_put N (1 : Int32) σ30) (fun _ σ32 =>
        obd (fX12_jump N (30 : Int32) σ32) (fun r33 σ34 =>
        if a2_ < 0 ∨ 4200 ≤ a2_.toNatClampNeg then none else (
        bnd (zsA σ34 40 a2_.toNatClampNeg r33) (fun σ35 =>
        if a2_ < 0 ∨ 4200 ≤ a2_.toNatClampNeg then none else (
        obd (fX12_land N (zA σ35 38 a2_.toNatClampNeg) σ35) (fun _ σ37 =>
        fX12_goesOnE_b73 N  a2_ σ37))))))))
      else (
        fX12_goesOnE_b73 N  a2_ σ24))))))
    else (
      obd (fX12_jump N (31 : Int32) σ) (fun r1 σ2 =>
      if a2_ < 0 ∨ 4200 ≤ a2_.toNatClampNeg then none else (
      bnd (zsA σ2 39 a2_.toNatClampNeg r1) (fun σ3 =>
      obd (fX12_put N (1 : Int32) σ3) (fun _ σ5 =>
      obd (fX12_put N (1 : Int32) σ5) (fun _ σ7 =>
      obd (fX12_jump N (30 : Int32) σ7) (fun r8 σ9 =>
      if a2_ < 0 ∨ 4200 ≤ a2_.toNatClampNeg then none else (
      obd (fX12_land N (zA σ9 39 a2_.toNatClampNeg) σ9) (fun _ σ11 =>
      if a2_ < 0 ∨ 4200 ≤ a2_.toNatClampNeg then none else (
      if (zA σ11 15 a2_.toNatClampNeg) = (7 : Int32) then (
        if a2_ < 0 ∨ 4200 ≤ a2_.toNatClampNeg then none else (
        obd (fX12_land N (zA σ11 38 a2_.toNatClampNeg) σ11) (fun _ σ21 =>
        fX12_goesOnE_b154 N  a2_ r8 σ21)))
      else (
        fX12_goesOnE_b154 N  a2_ r8 σ11))))))))))))
def fX12_makeS_b147 (N : Nat) (k11 : zSt → Option (Unit × zSt))  (σ : zSt) : Option (Unit × zSt) :=
  k11  σ
def fX12_makeS_b114 (N : Nat) (k11 : zSt → Option (Unit × zSt)) (x3_ : Int32) (s0_ : Int32) (σ : zSt) : Option (Unit × zSt) :=
  obd (fX12_task N s0_ x3_ σ) (fun _ σ8 =>
  fX12_makeS_b147 N k11  σ8)
def fX12_makeS_b103 (N : Nat) (k11 : zSt → Option (Unit × zSt)) (x2_ : Int32) (x3_ : Int32) (σ : zSt) : Option (Unit × zSt) :=
  if x2_ = (1 : Int32) then (
    fX12_makeS_b114 N k11 x3_ (0 : Int32) σ)
  else (
    fX12_makeS_b114 N k11 x3_ (2 : Int32) σ)
def fX12_makeS_b83 (N : Nat) (k11 : zSt → Option (Unit × zSt)) (x2_ : Int32) (x3_ : Int32) (σ : zSt) : Option (Unit × zSt) :=
  if x3_ < 0 ∨ 4200 ≤ x3_.toNatClampNeg then none else (
  if (zA σ 21 x3_.toNatClampNeg) < 0 then (
    fX12_makeS_b103 N k11 x2_ x3_ σ)
  else (
    if x3_ < 0 ∨ 4200 ≤ x3_.toNatClampNeg then none else (
    obd (fX12_task N x2_ (zA σ 21 x3_.toNatClampNeg) σ) (fun _ σ10 =>
    fX12_makeS_b103 N k11 x2_ x3_ σ10))))
def fX12_makeS_b11 (N : Nat)  : Nat → zSt → Option (Unit × zSt)
  | 0, _ => none
  | n + 1, σ =>
    if (zI σ 0 63) ≤ 0 then (
      some ((), σ))
    else (
      bnd (zsI σ 0 63 ((zI σ 0 63) - (1 : Int32))) (fun σ4 =>
      if (zI σ4 0 63) < 0 ∨ 6000 ≤ (zI σ4 0 63).toNatClampNeg then none else (
      bnd (zA σ4 36 (zI σ4 0 63).toNatClampNeg) (fun x5 =>
      if (zI σ4 0 63) < 0 ∨ 6000 ≤ (zI σ4 0 63).toNatClampNeg then none else (
      bnd (zA σ4 37 (zI σ4 0 63).toNatClampNeg) (fun x6 =>
      if x5 = 0 then (
        obd (fX12_begins2 N x6 σ4) (fun _ σ18 =>
        fX12_makeS_b147 N (fX12_makeS_b11 N  n)  σ18))
      else (
        if x5 = (2 : Int32) then (
          obd (fX12_beginsE N x6 σ4) (fun _ σ16 =>
          fX12_makeS_b147 N (fX12_makeS_b11 N  n)  σ16))
        else (
          if x5 = (1 : Int32) then (
            fX12_makeS_b83 N (fX12_makeS_b11 N  n) x5 x6 σ4)
          else (
            if x5 = (3 : Int32) then (
              fX12_makeS_b83 N (fX12_makeS_b11 N  n) x5 x6 σ4)
            else (
              if x6 < 0 ∨ 4200 ≤ x6.toNatClampNeg then none else (
              if (zA σ4 15 x6.toNatClampNeg) < (20 : Int32) then (
                obd (fX12_goesOnE N x5 x6 σ4) (fun _ σ12 =>
                fX12_makeS_b147 N (fX12_makeS_b11 N  n)  σ12))
              else (
                obd (fX12_goesOnS N x5 x6 σ4) (fun _ σ14 =>
                fX12_makeS_b147 N (fX12_makeS_b11 N  n)  σ14)))))))))))))
def fX12_makeS (N : Nat) (a1_ : Int32) (σ : zSt) : Option (Unit × zSt) :=
  bnd (zsI σ 0 63 (0 : Int32)) (fun σ1 =>
  obd (fX12_task N (0 : Int32) a1_ σ1) (fun _ σ3 =>
  fX12_makeS_b11 N  N  σ3))
def fX12_make_b113 (N : Nat) (k28 : Int32 → zSt → Option (Unit × zSt)) (x1_ : Int32) (σ : zSt) : Option (Unit × zSt) :=
  bnd (x1_ + (1 : Int32)) (fun x14 =>
  k28 x14 σ)
def fX12_make_b28 (N : Nat)  : Nat → Int32 → zSt → Option (Unit × zSt)
  | 0, _, _ => none
  | n + 1, x1_, σ =>
    if (zI σ 0 22) ≤ x1_ then (
      obd (fX12_named N (1835100526 : Int64) σ) (fun r11 σ12 =>
      if r11 < 0 ∨ 1400 ≤ r11.toNatClampNeg then none else (
      if (1 : Int32) < 0 ∨ 30000 ≤ (1 : Int32).toNatClampNeg then none else (
      bnd (zsA σ12 34 (1 : Int32).toNatClampNeg (zA σ12 35 r11.toNatClampNeg)) (fun σ13 =>
      some ((), σ13))))))
    else (
      if x1_ < 0 ∨ 1400 ≤ x1_.toNatClampNeg then none else (
      if (zA σ 8 x1_.toNatClampNeg) = (2 : Int32) then (
        if x1_ < 0 ∨ 1400 ≤ x1_.toNatClampNeg then none else (
        bnd (zsA σ 35 x1_.toNatClampNeg (zI σ 0 61)) (fun σ15 =>
        obd (fX12_put N (37 : Int32) σ15) (fun _ σ17 =>
        if x1_ < 0 ∨ 1400 ≤ x1_.toNatClampNeg then none else (
        obd (fX12_put N (zA σ17 12 x1_.toNatClampNeg) σ17) (fun _ σ19 =>
        bnd (zsI σ19 0 35 x1_) (fun σ20 =>
        if x1_ < 0 ∨ 1400 ≤ x1_.toNatClampNeg then none else (
        obd (fX12_makeS N (zA σ20 11 x1_.toNatClampNeg) σ20) (fun _ σ22 =>
        obd (fX12_put N (1 : Int32) σ22) (fun _ σ24 =>
        obd (fX12_put N (0 : Int32) σ24) (fun _ σ26 =>
        obd (fX12_put N (33 : Int32) σ26) (fun _ σ28 =>
        if x1_ < 0 ∨ 1400 ≤ x1_.toNatClampNeg then none else (
        obd (fX12_put N (zA σ28 10 x1_.toNatClampNeg) σ28) (fun _ σ30 =>
        fX12_make_b113 N (fX12_make_b28 N  n) x1_ σ30))))))))))))))
      else (
        fX12_make_b113 N (fX12_make_b28 N  n) x1_ σ)))
def fX12_make (N : Nat)  (σ : zSt) : Option (Unit × zSt) :=
  bnd (zsI σ 0 61 (0 : Int32)) (fun σ1 =>
  obd (fX12_put N (32 : Int32) σ1) (fun _ σ3 =>
  obd (fX12_put N (0 : Int32) σ3) (fun _ σ5 =>
  obd (fX12_put N (0 : Int32) σ5) (fun _ σ7 =>
  obd (fX12_put N (0 : Int32) σ7) (fun _ σ9 =>
  bnd (0 : Int32) (fun x10 =>
  fX12_make_b28 N  N x10 σ9))))))
def fX12_readKept_b18 (N : Nat)  : Nat → Int32 → zSt → Option (Unit × zSt)
  | 0, _, _ => none
  | n + 1, x1_, σ =>
    if (zI σ 0 16) ≤ x1_ then (
      obd (fX12_read N  σ) (fun _ σ4 =>
      some ((), σ4)))
    else (
      if x1_ < 0 ∨ 4096 ≤ x1_.toNatClampNeg then none else (
      if x1_ < 0 ∨ 4096 ≤ x1_.toNatClampNeg then none else (
      bnd (zsA σ 6 x1_.toNatClampNeg (zA σ 41 x1_.toNatClampNeg)) (fun σ5 =>
      bnd (x1_ + (1 : Int32)) (fun x6 =>
      fX12_readKept_b18 N  n x6 σ5)))))
def fX12_readKept (N : Nat)  (σ : zSt) : Option (Unit × zSt) :=
  if (zI σ 0 71) = 0 then (
    some ((), σ))
  else (
    bnd (zsI σ 0 16 (zI σ 0 70)) (fun σ1 =>
    bnd (0 : Int32) (fun x2 =>
    fX12_readKept_b18 N  N x2 σ1)))
def fX12_push (N : Nat) (a1_ : Int32) (a2_ : Int32) (σ : zSt) : Option (Unit × zSt) :=
  if (zI σ 0 82) < 0 ∨ 4120 ≤ (zI σ 0 82).toNatClampNeg then none else (
  bnd (zsA σ 44 (zI σ 0 82).toNatClampNeg a1_) (fun σ1 =>
  if (zI σ1 0 82) < 0 ∨ 4120 ≤ (zI σ1 0 82).toNatClampNeg then none else (
  bnd (zsA σ1 45 (zI σ1 0 82).toNatClampNeg a2_) (fun σ2 =>
  bnd (zsI σ2 0 82 ((zI σ2 0 82) + (1 : Int32))) (fun σ3 =>
  some ((), σ3))))))
def fX12_reset_b2 (N : Nat)  : Nat → Int32 → zSt → Option (Unit × zSt)
  | 0, _, _ => none
  | n + 1, x1_, σ =>
    if (4096 : Int32) ≤ x1_ then (
      bnd (zsI σ 0 72 (0 : Int32)) (fun σ2 =>
      bnd (zsI σ2 0 73 (zI σ2 0 29)) (fun σ3 =>
      bnd (zsI σ3 0 74 (0 : Int32)) (fun σ4 =>
      bnd (zsI σ4 0 75 (0 : Int32)) (fun σ5 =>
      bnd (zsI σ5 0 76 (0 : Int32)) (fun σ6 =>
      bnd (zsI σ6 0 14 (0 : Int32)) (fun σ7 =>
      bnd (zsI σ7 0 12 (0 : Int32)) (fun σ8 =>
      bnd (zsI σ8 0 79 (0 : Int32)) (fun σ9 =>
      bnd (zsI σ9 0 82 (0 : Int32)) (fun σ10 =>
      bnd (zsI σ10 0 87 (0 : Int32)) (fun σ11 =>
      bnd (zsI σ11 0 84 (0 : Int32)) (fun σ12 =>
      if (zI σ12 0 71) = 0 then (
        some ((), σ12))
      else (
        obd (fX12_push N (1 : Int32) (-1 : Int32) σ12) (fun _ σ14 =>
        some ((), σ14)))))))))))))))
    else (
      if x1_ < 0 ∨ 4096 ≤ x1_.toNatClampNeg then none else (
      bnd (zsA σ 3 x1_.toNatClampNeg (0 : Int32)) (fun σ15 =>
      if x1_ < 0 ∨ 4096 ≤ x1_.toNatClampNeg then none else (
      bnd (zsA σ15 42 x1_.toNatClampNeg (0 : Int32)) (fun σ16 =>
      bnd (x1_ + (1 : Int32)) (fun x17 =>
      fX12_reset_b2 N  n x17 σ16))))))
def fX12_reset (N : Nat)  (σ : zSt) : Option (Unit × zSt) :=
  bnd (0 : Int32) (fun x1 =>
  fX12_reset_b2 N  N x1 σ)
def fX12_compile_b136 (N : Nat)  : Nat → Int32 → zSt → Option (Int32 × zSt)
  | 0, _, _ => none
  | n + 1, x1_, σ =>
    if (zI σ 0 6) ≤ x1_ then (
      bnd (zsI σ 0 71 (1 : Int32)) (fun σ13 =>
      obd (fX12_reset N  σ13) (fun _ σ15 =>
      some ((0 : Int32), σ15))))
    else (
      if x1_ < 0 ∨ 30000 ≤ x1_.toNatClampNeg then none else (
      if x1_ < 0 ∨ 4096 ≤ x1_.toNatClampNeg then none else (
      bnd (zsA σ 2 x1_.toNatClampNeg (zA σ 34 x1_.toNatClampNeg)) (fun σ16 =>
      bnd (x1_ + (1 : Int32)) (fun x17 =>
      fX12_compile_b136 N  n x17 σ16)))))
def fX12_compile_b100 (N : Nat)  : Nat → Int32 → zSt → Option (Int32 × zSt)
  | 0, _, _ => none
  | n + 1, x1_, σ =>
    if (zI σ 0 16) ≤ x1_ then (
      bnd (zsI σ 0 6 (zI σ 0 61)) (fun σ11 =>
      bnd (0 : Int32) (fun x12 =>
      fX12_compile_b136 N  N x12 σ11)))
    else (
      if x1_ < 0 ∨ 4096 ≤ x1_.toNatClampNeg then none else (
      if x1_ < 0 ∨ 4096 ≤ x1_.toNatClampNeg then none else (
      bnd (zsA σ 41 x1_.toNatClampNeg (zA σ 6 x1_.toNatClampNeg)) (fun σ18 =>
      bnd (x1_ + (1 : Int32)) (fun x19 =>
      fX12_compile_b100 N  n x19 σ18)))))
def fX12_compile_b72 (N : Nat)   (σ : zSt) : Option (Int32 × zSt) :=
  obd (fX12_isWell N  σ) (fun r7 σ8 =>
  if r7 = 0 then (
    bnd (zI σ8 0 21) (fun x20 =>
    obd (fX12_readKept N  σ8) (fun _ σ22 =>
    some (x20, σ22))))
  else (
    bnd (zsI σ8 0 70 (zI σ8 0 16)) (fun σ9 =>
    bnd (0 : Int32) (fun x10 =>
    fX12_compile_b100 N  N x10 σ9))))
def fX12_compile_b10 (N : Nat)  : Nat → Int32 → zSt → Option (Int32 × zSt)
  | 0, _, _ => none
  | n + 1, x1_, σ =>
    if (zI σ 0 16) ≤ x1_ then (
      obd (fX12_read N  σ) (fun _ σ4 =>
      obd (fX12_isWell N  σ4) (fun r5 σ6 =>
      if r5 = 0 then (
        fX12_compile_b72 N   σ6)
      else (
        obd (fX12_make N  σ6) (fun _ σ24 =>
        if (zI σ24 0 61) ≤ (zI σ24 0 5) then (
          fX12_compile_b72 N   σ24)
        else (
          obd (fX12_fails N (10 : Int32) (zI σ24 0 16) σ24) (fun _ σ26 =>
          fX12_compile_b72 N   σ26)))))))
    else (
      if x1_ < 0 ∨ 4096 ≤ x1_.toNatClampNeg then none else (
      if x1_ < 0 ∨ 4096 ≤ x1_.toNatClampNeg then none else (
      bnd (zsA σ 6 x1_.toNatClampNeg (zA σ 1 x1_.toNatClampNeg)) (fun σ27 =>
      bnd (x1_ + (1 : Int32)) (fun x28 =>
      fX12_compile_b10 N  n x28 σ27)))))
def fX12_compile (N : Nat)  (σ : zSt) : Option (Int32 × zSt) :=
  bnd (zsI σ 0 16 (zI σ 0 2)) (fun σ1 =>
  bnd (0 : Int32) (fun x2 =>
  fX12_compile_b10 N  N x2 σ1))
def fX12_input (N : Nat) (a1_ : Int32) (σ : zSt) : Option (Int32 × zSt) :=
  if (zI σ 0 11) = (zI σ 0 10) then (
    some ((1 : Int32), σ))
  else (
    if (zI σ 0 11) < 0 ∨ 4096 ≤ (zI σ 0 11).toNatClampNeg then none else (
    bnd (zsA σ 4 (zI σ 0 11).toNatClampNeg a1_) (fun σ1 =>
    bnd (zsI σ1 0 11 ((zI σ1 0 11) + (1 : Int32))) (fun σ2 =>
    some ((0 : Int32), σ2)))))
def fX12_unary (N : Nat) (a0_ : Int32) (a1_ : Int32) (σ : zSt) : Option (Int32 × zSt) :=
  if a0_ = (24 : Int32) then (
    some (-a1_, σ))
  else (
    if a0_ = (25 : Int32) then (
      if a1_ = 0 then (
        some ((1 : Int32), σ))
      else (
        some ((0 : Int32), σ)))
    else (
      some (a1_ ^^^ (-1 : Int32), σ)))
def fX12_top (N : Nat)  (σ : zSt) : Option (Int32 × zSt) :=
  bnd (zsI σ 0 73 ((zI σ 0 73) - (1 : Int32))) (fun σ1 =>
  if (zI σ1 0 73) < 0 ∨ 4096 ≤ (zI σ1 0 73).toNatClampNeg then none else (
  some (zA σ1 3 (zI σ1 0 73).toNatClampNeg, σ1)))
def fX12_binary_ (N : Nat) (a0_ : Int32) (a1_ : Int32) (a2_ : Int32) (σ : zSt) : Option (Int32 × zSt) :=
  if a0_ = (10 : Int32) then (
    some (a1_ ||| a2_, σ))
  else if a0_ = (11 : Int32) then (
    some (a1_ ^^^ a2_, σ))
  else if a0_ = (12 : Int32) then (
    some (a1_ &&& a2_, σ))
  else if a0_ = (13 : Int32) then (
    if a1_ = a2_ then (
      some ((1 : Int32), σ))
    else (
      some ((0 : Int32), σ)))
  else if a0_ = (14 : Int32) then (
    if a1_ = a2_ then (
      some ((0 : Int32), σ))
    else (
      some ((1 : Int32), σ)))
  else if a0_ = (15 : Int32) then (
    if a2_ ≤ a1_ then (
      some ((0 : Int32), σ))
    else (
      some ((1 : Int32), σ)))
  else if a0_ = (16 : Int32) then (
    if a2_ < a1_ then (
      some ((0 : Int32), σ))
    else (
      some ((1 : Int32), σ)))
  else if a0_ = (17 : Int32) then (
    if a1_ ≤ a2_ then (
      some ((0 : Int32), σ))
    else (
      some ((1 : Int32), σ)))
  else if a0_ = (18 : Int32) then (
    if a1_ < a2_ then (
      some ((0 : Int32), σ))
    else (
      some ((1 : Int32), σ)))
  else if a0_ = (19 : Int32) then (
    some (a1_ <<< (a2_ &&& 31), σ))
  else if a0_ = (20 : Int32) then (
    some (a1_ >>> (a2_ &&& 31), σ))
  else if a0_ = (21 : Int32) then (
    some (a1_ + a2_, σ))
  else if a0_ = (22 : Int32) then (
    some (a1_ - a2_, σ))
  else if a0_ = (23 : Int32) then (
    some (a1_ * a2_, σ))
  else if a0_ = (24 : Int32) then (
    if a2_ = 0 then none else (
    some (a1_ - a1_ / a2_ * a2_, σ)))
  else if a0_ = (25 : Int32) then (
    if a2_ = 0 then none else (
    some (a1_ - a1_ / a2_ * a2_, σ)))
  else if a0_ = (26 : Int32) then (
    if a2_ = 0 then none else (
    some (a1_ - a1_ / a2_ * a2_, σ)))
  else if a0_ = (27 : Int32) then (
    if a2_ = 0 then none else (
    some (a1_ / a2_, σ)))
  else (
    if a2_ = 0 then none else (
    some (a1_ - a1_ / a2_ * a2_, σ)))
def fX12_reckons_b65 (N : Nat)  (x1_ : Int32) (x2_ : Int32) (x3_ : Int32) (σ : zSt) : Option (Unit × zSt) :=
  obd (fX12_binary_ N x1_ x3_ x2_ σ) (fun r5 σ6 =>
  if (zI σ 0 73) < 0 ∨ 4096 ≤ (zI σ 0 73).toNatClampNeg then none else (
  bnd (zsA σ6 3 (zI σ 0 73).toNatClampNeg r5) (fun σ7 =>
  bnd (zsI σ7 0 73 ((zI σ7 0 73) + (1 : Int32))) (fun σ8 =>
  some ((), σ8)))))
def fX12_reckons_b39 (N : Nat)  (x1_ : Int32) (σ : zSt) : Option (Unit × zSt) :=
  obd (fX12_top N  σ) (fun r1 σ2 =>
  obd (fX12_top N  σ2) (fun r3 σ4 =>
  if r1 = 0 then (
    if x1_ < (27 : Int32) then (
      fX12_reckons_b65 N  x1_ r1 r3 σ4)
    else (
      bnd (zsI σ4 0 75 (2 : Int32)) (fun σ9 =>
      some ((), σ9))))
  else (
    fX12_reckons_b65 N  x1_ r1 r3 σ4)))
def fX12_reckons (N : Nat) (a1_ : Int32) (σ : zSt) : Option (Unit × zSt) :=
  if a1_ < (24 : Int32) then (
    fX12_reckons_b39 N  a1_ σ)
  else (
    if (26 : Int32) < a1_ then (
      fX12_reckons_b39 N  a1_ σ)
    else (
      if ((zI σ 0 73) - (1 : Int32)) < 0 ∨ 4096 ≤ ((zI σ 0 73) - (1 : Int32)).toNatClampNeg then none else (
      obd (fX12_unary N a1_ (zA σ 3 ((zI σ 0 73) - (1 : Int32)).toNatClampNeg) σ) (fun r10 σ11 =>
      if ((zI σ 0 73) - (1 : Int32)) < 0 ∨ 4096 ≤ ((zI σ 0 73) - (1 : Int32)).toNatClampNeg then none else (
      bnd (zsA σ11 3 ((zI σ 0 73) - (1 : Int32)).toNatClampNeg r10) (fun σ12 =>
      some ((), σ12)))))))
def fX12_comesOut (N : Nat) (a1_ : Int32) (σ : zSt) : Option (Unit × zSt) :=
  if (zI σ 0 14) = (zI σ 0 10) then (
    bnd (zsI σ 0 75 (6 : Int32)) (fun σ3 =>
    some ((), σ3)))
  else (
    if (zI σ 0 14) < 0 ∨ 4096 ≤ (zI σ 0 14).toNatClampNeg then none else (
    bnd (zsA σ 5 (zI σ 0 14).toNatClampNeg a1_) (fun σ1 =>
    bnd (zsI σ1 0 14 ((zI σ1 0 14) + (1 : Int32))) (fun σ2 =>
    some ((), σ2)))))
def fX12_ends_b31 (N : Nat)  (s0_ : Int32) (σ : zSt) : Option (Unit × zSt) :=
  bnd (zsI σ 0 75 s0_) (fun σ3 =>
  some ((), σ3))
def fX12_ends (N : Nat)  (σ : zSt) : Option (Unit × zSt) :=
  if ((zI σ 0 73) - (1 : Int32)) < 0 ∨ 4096 ≤ ((zI σ 0 73) - (1 : Int32)).toNatClampNeg then none else (
  obd (fX12_comesOut N (zA σ 3 ((zI σ 0 73) - (1 : Int32)).toNatClampNeg) σ) (fun _ σ2 =>
  if (zI σ2 0 75) = 0 then (
    fX12_ends_b31 N  (1 : Int32) σ2)
  else (
    fX12_ends_b31 N  (zI σ2 0 75) σ2)))
def fX12_hasRoom (N : Nat) (a1_ : Int32) (σ : zSt) : Option (Int32 × zSt) :=
  if ((zI σ 0 73) + a1_) ≤ (zI σ 0 8) then (
    some ((1 : Int32), σ))
  else (
    bnd (zsI σ 0 75 (4 : Int32)) (fun σ1 =>
    some ((0 : Int32), σ1)))
def fX12_pushes (N : Nat) (a1_ : Int32) (σ : zSt) : Option (Unit × zSt) :=
  obd (fX12_hasRoom N (1 : Int32) σ) (fun r1 σ2 =>
  if r1 = 0 then (
    some ((), σ2))
  else (
    if (zI σ2 0 73) < 0 ∨ 4096 ≤ (zI σ2 0 73).toNatClampNeg then none else (
    bnd (zsA σ2 3 (zI σ2 0 73).toNatClampNeg a1_) (fun σ3 =>
    bnd (zsI σ3 0 73 ((zI σ3 0 73) + (1 : Int32))) (fun σ4 =>
    some ((), σ4))))))
def fX12_items_b33 (N : Nat)   (σ : zSt) : Option (Unit × zSt) :=
  bnd (zsI σ 0 75 (3 : Int32)) (fun σ3 =>
  some ((), σ3))
def fX12_items_b14 (N : Nat)  (x1_ : Int32) (x2_ : Int32) (x3_ : Int32) (s0_ : Int32) (σ : zSt) : Option (Unit × zSt) :=
  obd (fX12_top N  σ) (fun r1 σ2 =>
  if r1 < 0 then (
    fX12_items_b33 N   σ2)
  else (
    if r1 < x3_ then (
      if x1_ = (7 : Int32) then (
        if (x2_ + r1) < 0 ∨ 4096 ≤ (x2_ + r1).toNatClampNeg then none else (
        bnd (zsA σ2 3 (x2_ + r1).toNatClampNeg s0_) (fun σ6 =>
        some ((), σ6))))
      else (
        if (x2_ + r1) < 0 ∨ 4096 ≤ (x2_ + r1).toNatClampNeg then none else (
        obd (fX12_pushes N (zA σ2 3 (x2_ + r1).toNatClampNeg) σ2) (fun _ σ5 =>
        some ((), σ5)))))
    else (
      fX12_items_b33 N   σ2)))
def fX12_items (N : Nat) (a1_ : Int32) (a2_ : Int32) (a3_ : Int32) (σ : zSt) : Option (Unit × zSt) :=
  if a1_ = (7 : Int32) then (
    obd (fX12_top N  σ) (fun r7 σ8 =>
    fX12_items_b14 N  a1_ a2_ a3_ r7 σ8))
  else (
    fX12_items_b14 N  a1_ a2_ a3_ (0 : Int32) σ)
def fX12_acts_b319 (N : Nat)  : Nat → Int32 → Int32 → zSt → Option (Unit × zSt)
  | 0, _, _, _ => none
  | n + 1, x2_, x4_, σ =>
    if x2_ ≤ x4_ then (
      bnd (zsI σ 0 73 ((zI σ 0 73) + x2_)) (fun σ34 =>
      some ((), σ34)))
    else (
      if ((zI σ 0 73) + x4_) < 0 ∨ 4096 ≤ ((zI σ 0 73) + x4_).toNatClampNeg then none else (
      bnd (zsA σ 3 ((zI σ 0 73) + x4_).toNatClampNeg (0 : Int32)) (fun σ35 =>
      bnd (x4_ + (1 : Int32)) (fun x36 =>
      fX12_acts_b319 N  n x2_ x36 σ35))))
def fX12_acts (N : Nat) (a1_ : Int32) (a2_ : Int32) (a3_ : Int32) (σ : zSt) : Option (Unit × zSt) :=
  if a1_ = (32 : Int32) then (
    obd (fX12_hasRoom N (2 : Int32) σ) (fun r1 σ2 =>
    if r1 = 0 then (
      some ((), σ2))
    else (
      if (zI σ2 0 73) < 0 ∨ 4096 ≤ (zI σ2 0 73).toNatClampNeg then none else (
      bnd (zsA σ2 3 (zI σ2 0 73).toNatClampNeg ((zI σ2 0 72) + (3 : Int32))) (fun σ3 =>
      if ((zI σ3 0 73) + (1 : Int32)) < 0 ∨ 4096 ≤ ((zI σ3 0 73) + (1 : Int32)).toNatClampNeg then none else (
      bnd (zsA σ3 3 ((zI σ3 0 73) + (1 : Int32)).toNatClampNeg (zI σ3 0 74)) (fun σ4 =>
      bnd (zsI σ4 0 73 ((zI σ4 0 73) + (2 : Int32))) (fun σ5 =>
      bnd (zsI σ5 0 74 (zI σ5 0 73)) (fun σ6 =>
      bnd (zsI σ6 0 72 a2_) (fun σ7 =>
      some ((), σ7)))))))))))
  else if a1_ = (33 : Int32) then (
    obd (fX12_top N  σ) (fun r8 σ9 =>
    if ((zI σ9 0 74) - (2 : Int32)) < 0 ∨ 4096 ≤ ((zI σ9 0 74) - (2 : Int32)).toNatClampNeg then none else (
    bnd (zA σ9 3 ((zI σ9 0 74) - (2 : Int32)).toNatClampNeg) (fun x10 =>
    bnd (zsI σ9 0 73 (((zI σ9 0 74) - (2 : Int32)) - a2_)) (fun σ11 =>
    if ((zI σ11 0 74) - (1 : Int32)) < 0 ∨ 4096 ≤ ((zI σ11 0 74) - (1 : Int32)).toNatClampNeg then none else (
    bnd (zsI σ11 0 74 (zA σ11 3 ((zI σ11 0 74) - (1 : Int32)).toNatClampNeg)) (fun σ12 =>
    bnd (zsI σ12 0 72 x10) (fun σ13 =>
    if (zI σ13 0 73) < 0 ∨ 4096 ≤ (zI σ13 0 73).toNatClampNeg then none else (
    bnd (zsA σ13 3 (zI σ13 0 73).toNatClampNeg r8) (fun σ14 =>
    bnd (zsI σ14 0 73 ((zI σ14 0 73) + (1 : Int32))) (fun σ15 =>
    some ((), σ15))))))))))))
  else if a1_ = (34 : Int32) then (
    bnd (zsI σ 0 72 ((zI σ 0 72) + (1 : Int32))) (fun σ16 =>
    obd (fX12_top N  σ16) (fun r17 σ18 =>
    obd (fX12_comesOut N r17 σ18) (fun _ σ20 =>
    some ((), σ20)))))
  else if a1_ = (35 : Int32) then (
    bnd (zsI σ 0 72 ((zI σ 0 72) + (1 : Int32))) (fun σ21 =>
    if (zI σ21 0 12) = (zI σ21 0 11) then (
      bnd (zsI σ21 0 75 (5 : Int32)) (fun σ27 =>
      some ((), σ27)))
    else (
      obd (fX12_hasRoom N (1 : Int32) σ21) (fun r22 σ23 =>
      if r22 = 0 then (
        some ((), σ23))
      else (
        if (zI σ23 0 12) < 0 ∨ 4096 ≤ (zI σ23 0 12).toNatClampNeg then none else (
        if (zI σ23 0 73) < 0 ∨ 4096 ≤ (zI σ23 0 73).toNatClampNeg then none else (
        bnd (zsA σ23 3 (zI σ23 0 73).toNatClampNeg (zA σ23 4 (zI σ23 0 12).toNatClampNeg)) (fun σ24 =>
        bnd (zsI σ24 0 73 ((zI σ24 0 73) + (1 : Int32))) (fun σ25 =>
        bnd (zsI σ25 0 12 ((zI σ25 0 12) + (1 : Int32))) (fun σ26 =>
        some ((), σ26)))))))))))
  else if a1_ = (36 : Int32) then (
    bnd (zsI σ 0 72 ((zI σ 0 72) + (1 : Int32))) (fun σ28 =>
    bnd (zsI σ28 0 73 ((zI σ28 0 73) - (1 : Int32))) (fun σ29 =>
    some ((), σ29))))
  else (
    bnd (zsI σ 0 72 ((zI σ 0 72) + (2 : Int32))) (fun σ30 =>
    obd (fX12_hasRoom N a2_ σ30) (fun r31 σ32 =>
    if r31 = 0 then (
      some ((), σ32))
    else (
      bnd (0 : Int32) (fun x33 =>
      fX12_acts_b319 N  N a2_ x33 σ32)))))
def fX12_act_b429 (N : Nat)  (s0_ : Int32) (σ : zSt) : Option (Unit × zSt) :=
  bnd (zsI σ 0 72 s0_) (fun σ74 =>
  some ((), σ74))
def fX12_act_b113 (N : Nat)  (x1_ : Int32) (x2_ : Int32) (x3_ : Int32) (σ : zSt) : Option (Unit × zSt) :=
  if x1_ = (0 : Int32) then (
    obd (fX12_ends N  σ) (fun _ σ3 =>
    some ((), σ3)))
  else if x1_ = (1 : Int32) then (
    bnd (zsI σ 0 72 ((zI σ 0 72) + (2 : Int32))) (fun σ4 =>
    obd (fX12_pushes N x2_ σ4) (fun _ σ6 =>
    some ((), σ6))))
  else if x1_ = (2 : Int32) then (
    bnd (zsI σ 0 72 ((zI σ 0 72) + (2 : Int32))) (fun σ7 =>
    if x2_ < 0 ∨ 4096 ≤ x2_.toNatClampNeg then none else (
    obd (fX12_pushes N (zA σ7 3 x2_.toNatClampNeg) σ7) (fun _ σ9 =>
    some ((), σ9)))))
  else if x1_ = (3 : Int32) then (
    bnd (zsI σ 0 72 ((zI σ 0 72) + (2 : Int32))) (fun σ10 =>
    obd (fX12_top N  σ10) (fun r11 σ12 =>
    if x2_ < 0 ∨ 4096 ≤ x2_.toNatClampNeg then none else (
    bnd (zsA σ12 3 x2_.toNatClampNeg r11) (fun σ13 =>
    some ((), σ13))))))
  else if x1_ = (4 : Int32) then (
    bnd (zsI σ 0 72 ((zI σ 0 72) + (2 : Int32))) (fun σ14 =>
    if ((zI σ14 0 74) + x2_) < 0 ∨ 4096 ≤ ((zI σ14 0 74) + x2_).toNatClampNeg then none else (
    obd (fX12_pushes N (zA σ14 3 ((zI σ14 0 74) + x2_).toNatClampNeg) σ14) (fun _ σ16 =>
    some ((), σ16)))))
  else if x1_ = (5 : Int32) then (
    bnd (zsI σ 0 72 ((zI σ 0 72) + (2 : Int32))) (fun σ17 =>
    obd (fX12_top N  σ17) (fun r18 σ19 =>
    if ((zI σ17 0 74) + x2_) < 0 ∨ 4096 ≤ ((zI σ17 0 74) + x2_).toNatClampNeg then none else (
    bnd (zsA σ19 3 ((zI σ17 0 74) + x2_).toNatClampNeg r18) (fun σ20 =>
    some ((), σ20))))))
  else if x1_ = (6 : Int32) then (
    bnd (zsI σ 0 72 ((zI σ 0 72) + (3 : Int32))) (fun σ21 =>
    obd (fX12_items N x1_ x2_ x3_ σ21) (fun _ σ23 =>
    some ((), σ23))))
  else if x1_ = (7 : Int32) then (
    bnd (zsI σ 0 72 ((zI σ 0 72) + (3 : Int32))) (fun σ24 =>
    obd (fX12_items N x1_ x2_ x3_ σ24) (fun _ σ26 =>
    some ((), σ26))))
  else if x1_ = (8 : Int32) then (
    obd (fX12_acts N x1_ x2_ x3_ σ) (fun _ σ28 =>
    some ((), σ28)))
  else if x1_ = (9 : Int32) then (
    obd (fX12_acts N x1_ x2_ x3_ σ) (fun _ σ30 =>
    some ((), σ30)))
  else if x1_ = (10 : Int32) then (
    obd (fX12_acts N x1_ x2_ x3_ σ) (fun _ σ32 =>
    some ((), σ32)))
  else if x1_ = (11 : Int32) then (
    obd (fX12_acts N x1_ x2_ x3_ σ) (fun _ σ34 =>
    some ((), σ34)))
  else if x1_ = (12 : Int32) then (
    obd (fX12_acts N x1_ x2_ x3_ σ) (fun _ σ36 =>
    some ((), σ36)))
  else if x1_ = (13 : Int32) then (
    obd (fX12_acts N x1_ x2_ x3_ σ) (fun _ σ38 =>
    some ((), σ38)))
  else if x1_ = (14 : Int32) then (
    obd (fX12_acts N x1_ x2_ x3_ σ) (fun _ σ40 =>
    some ((), σ40)))
  else if x1_ = (15 : Int32) then (
    obd (fX12_acts N x1_ x2_ x3_ σ) (fun _ σ42 =>
    some ((), σ42)))
  else if x1_ = (16 : Int32) then (
    obd (fX12_acts N x1_ x2_ x3_ σ) (fun _ σ44 =>
    some ((), σ44)))
  else if x1_ = (17 : Int32) then (
    obd (fX12_acts N x1_ x2_ x3_ σ) (fun _ σ46 =>
    some ((), σ46)))
  else if x1_ = (18 : Int32) then (
    obd (fX12_acts N x1_ x2_ x3_ σ) (fun _ σ48 =>
    some ((), σ48)))
  else if x1_ = (19 : Int32) then (
    obd (fX12_acts N x1_ x2_ x3_ σ) (fun _ σ50 =>
    some ((), σ50)))
  else if x1_ = (20 : Int32) then (
    obd (fX12_acts N x1_ x2_ x3_ σ) (fun _ σ52 =>
    some ((), σ52)))
  else if x1_ = (21 : Int32) then (
    obd (fX12_acts N x1_ x2_ x3_ σ) (fun _ σ54 =>
    some ((), σ54)))
  else if x1_ = (22 : Int32) then (
    obd (fX12_acts N x1_ x2_ x3_ σ) (fun _ σ56 =>
    some ((), σ56)))
  else if x1_ = (23 : Int32) then (
    obd (fX12_acts N x1_ x2_ x3_ σ) (fun _ σ58 =>
    some ((), σ58)))
  else if x1_ = (24 : Int32) then (
    obd (fX12_acts N x1_ x2_ x3_ σ) (fun _ σ60 =>
    some ((), σ60)))
  else if x1_ = (25 : Int32) then (
    obd (fX12_acts N x1_ x2_ x3_ σ) (fun _ σ62 =>
    some ((), σ62)))
  else if x1_ = (26 : Int32) then (
    obd (fX12_acts N x1_ x2_ x3_ σ) (fun _ σ64 =>
    some ((), σ64)))
  else if x1_ = (27 : Int32) then (
    obd (fX12_acts N x1_ x2_ x3_ σ) (fun _ σ66 =>
    some ((), σ66)))
  else if x1_ = (28 : Int32) then (
    obd (fX12_acts N x1_ x2_ x3_ σ) (fun _ σ68 =>
    some ((), σ68)))
  else if x1_ = (29 : Int32) then (
    obd (fX12_acts N x1_ x2_ x3_ σ) (fun _ σ70 =>
    some ((), σ70)))
  else if x1_ = (30 : Int32) then (
    bnd (zsI σ 0 72 x2_) (fun σ71 =>
    some ((), σ71)))
  else if x1_ = (31 : Int32) then (
    obd (fX12_top N  σ) (fun r72 σ73 =>
    if r72 = 0 then (
      fX12_act_b429 N  x2_ σ73)
    else (
      fX12_act_b429 N  ((zI σ73 0 72) + (2 : Int32)) σ73)))
  else (
    obd (fX12_acts N x1_ x2_ x3_ σ) (fun _ σ76 =>
    some ((), σ76)))
def fX12_act_b84 (N : Nat)  (x1_ : Int32) (x2_ : Int32) (s0_ : Int32) (σ : zSt) : Option (Unit × zSt) :=
  if x1_ < (10 : Int32) then (
    fX12_act_b113 N  x1_ x2_ s0_ σ)
  else (
    if (28 : Int32) < x1_ then (
      fX12_act_b113 N  x1_ x2_ s0_ σ)
    else (
      bnd (zsI σ 0 72 ((zI σ 0 72) + (1 : Int32))) (fun σ77 =>
      obd (fX12_reckons N x1_ σ77) (fun _ σ79 =>
      some ((), σ79)))))
def fX12_act_b55 (N : Nat)  (x1_ : Int32) (s0_ : Int32) (σ : zSt) : Option (Unit × zSt) :=
  if (zI σ 0 6) ≤ ((zI σ 0 72) + (2 : Int32)) then (
    fX12_act_b84 N  x1_ s0_ (0 : Int32) σ)
  else (
    if ((zI σ 0 72) + (2 : Int32)) < 0 ∨ 4096 ≤ ((zI σ 0 72) + (2 : Int32)).toNatClampNeg then none else (
    fX12_act_b84 N  x1_ s0_ (zA σ 2 ((zI σ 0 72) + (2 : Int32)).toNatClampNeg) σ))
def fX12_act (N : Nat)  (σ : zSt) : Option (Unit × zSt) :=
  if (zI σ 0 29) ≤ (zI σ 0 8) then (
    if (zI σ 0 72) < 0 ∨ 4096 ≤ (zI σ 0 72).toNatClampNeg then none else (
    bnd (zA σ 2 (zI σ 0 72).toNatClampNeg) (fun x1 =>
    if (zI σ 0 6) ≤ ((zI σ 0 72) + (1 : Int32)) then (
      fX12_act_b55 N  x1 (0 : Int32) σ)
    else (
      if ((zI σ 0 72) + (1 : Int32)) < 0 ∨ 4096 ≤ ((zI σ 0 72) + (1 : Int32)).toNatClampNeg then none else (
      fX12_act_b55 N  x1 (zA σ 2 ((zI σ 0 72) + (1 : Int32)).toNatClampNeg) σ)))))
  else (
    bnd (zsI σ 0 75 (4 : Int32)) (fun σ80 =>
    some ((), σ80)))
def fX12_step (N : Nat)  (σ : zSt) : Option (Int32 × zSt) :=
  if (zI σ 0 71) = 0 then (
    some ((-1 : Int32), σ))
  else (
    if (zI σ 0 76) = (2 : Int32) then (
      some ((-2 : Int32), σ))
    else (
      bnd (zsI σ 0 76 (1 : Int32)) (fun σ1 =>
      if (zI σ1 0 75) = 0 then (
        obd (fX12_act N  σ1) (fun _ σ3 =>
        some (zI σ3 0 75, σ3)))
      else (
        some (zI σ1 0 75, σ1)))))
def fX12_run_b22 (N : Nat)  : Nat → Int32 → Int32 → zSt → Option (Int32 × zSt)
  | 0, _, _, _ => none
  | n + 1, x1_, x2_, σ =>
    if x1_ ≤ x2_ then (
      some (zI σ 0 75, σ))
    else (
      if (zI σ 0 75) = 0 then (
        obd (fX12_step N  σ) (fun r2 σ3 =>
        bnd (x2_ + (1 : Int32)) (fun x4 =>
        fX12_run_b22 N  n x1_ x4 σ3)))
      else (
        some (zI σ 0 75, σ)))
def fX12_run (N : Nat) (a1_ : Int32) (σ : zSt) : Option (Int32 × zSt) :=
  if (zI σ 0 71) = 0 then (
    some ((-1 : Int32), σ))
  else (
    if (zI σ 0 76) = (2 : Int32) then (
      some ((-2 : Int32), σ))
    else (
      bnd (0 : Int32) (fun x1 =>
      fX12_run_b22 N  N a1_ x1 σ)))
def fX12_gives (N : Nat) (a1_ : Int32) (σ : zSt) : Option (Unit × zSt) :=
  if (zI σ 0 79) < 0 ∨ 4120 ≤ (zI σ 0 79).toNatClampNeg then none else (
  bnd (zsA σ 43 (zI σ 0 79).toNatClampNeg a1_) (fun σ1 =>
  bnd (zsI σ1 0 79 ((zI σ1 0 79) + (1 : Int32))) (fun σ2 =>
  some ((), σ2))))
def fX12_goes (N : Nat)  (σ : zSt) : Option (Int32 × zSt) :=
  bnd (zsI σ 0 79 ((zI σ 0 79) - (1 : Int32))) (fun σ1 =>
  if (zI σ1 0 79) < 0 ∨ 4120 ≤ (zI σ1 0 79).toNatClampNeg then none else (
  some (zA σ1 43 (zI σ1 0 79).toNatClampNeg, σ1)))
def fX12_where (N : Nat) (a1_ : Int32) (σ : zSt) : Option (Int32 × zSt) :=
  if ((zI σ 0 87) - (1 : Int32)) < 0 ∨ 4120 ≤ ((zI σ 0 87) - (1 : Int32)).toNatClampNeg then none else (
  if (zA σ 48 ((zI σ 0 87) - (1 : Int32)).toNatClampNeg) < 0 ∨ 1400 ≤ (zA σ 48 ((zI σ 0 87) - (1 : Int32)).toNatClampNeg).toNatClampNeg then none else (
  bnd (zA σ 10 (zA σ 48 ((zI σ 0 87) - (1 : Int32)).toNatClampNeg).toNatClampNeg) (fun x1 =>
  if ((zI σ 0 87) - (1 : Int32)) < 0 ∨ 4120 ≤ ((zI σ 0 87) - (1 : Int32)).toNatClampNeg then none else (
  if 0 ≤ a1_ then (
    some ((zA σ 47 ((zI σ 0 87) - (1 : Int32)).toNatClampNeg) + (x1 + a1_), σ))
  else (
    some ((zA σ 47 ((zI σ 0 87) - (1 : Int32)).toNatClampNeg) + ((a1_ + (2 : Int32)) + x1), σ))))))
def fX12_enters_b90 (N : Nat)  : Nat → Int32 → Int32 → zSt → Option (Unit × zSt)
  | 0, _, _, _ => none
  | n + 1, x1_, x2_, σ =>
    if x1_ < 0 ∨ 1400 ≤ x1_.toNatClampNeg then none else (
    if (zA σ 12 x1_.toNatClampNeg) ≤ x2_ then (
      if x1_ < 0 ∨ 1400 ≤ x1_.toNatClampNeg then none else (
      if x1_ < 0 ∨ 1400 ≤ x1_.toNatClampNeg then none else (
      bnd (zsI σ 0 84 ((zI σ 0 84) + ((zA σ 10 x1_.toNatClampNeg) + (zA σ 12 x1_.toNatClampNeg)))) (fun σ7 =>
      obd (fX12_push N (6 : Int32) x1_ σ7) (fun _ σ9 =>
      if x1_ < 0 ∨ 1400 ≤ x1_.toNatClampNeg then none else (
      obd (fX12_push N (8 : Int32) (zA σ9 11 x1_.toNatClampNeg) σ9) (fun _ σ11 =>
      some ((), σ11))))))))
    else (
      if x1_ < 0 ∨ 1400 ≤ x1_.toNatClampNeg then none else (
      if (((zI σ 0 84) + (zA σ 10 x1_.toNatClampNeg)) + x2_) < 0 ∨ 5500 ≤ (((zI σ 0 84) + (zA σ 10 x1_.toNatClampNeg)) + x2_).toNatClampNeg then none else (
      bnd (zsA σ 46 (((zI σ 0 84) + (zA σ 10 x1_.toNatClampNeg)) + x2_).toNatClampNeg (0 : Int32)) (fun σ12 =>
      bnd (x2_ + (1 : Int32)) (fun x13 =>
      fX12_enters_b90 N  n x1_ x13 σ12))))))
def fX12_enters_b50 (N : Nat)  : Nat → Int32 → Int32 → zSt → Option (Unit × zSt)
  | 0, _, _, _ => none
  | n + 1, x1_, x2_, σ =>
    if x1_ < 0 ∨ 1400 ≤ x1_.toNatClampNeg then none else (
    if (zA σ 10 x1_.toNatClampNeg) ≤ x2_ then (
      bnd (0 : Int32) (fun x6 =>
      fX12_enters_b90 N  N x1_ x6 σ))
    else (
      if ((zI σ 0 79) + x2_) < 0 ∨ 4120 ≤ ((zI σ 0 79) + x2_).toNatClampNeg then none else (
      if ((zI σ 0 84) + x2_) < 0 ∨ 5500 ≤ ((zI σ 0 84) + x2_).toNatClampNeg then none else (
      bnd (zsA σ 46 ((zI σ 0 84) + x2_).toNatClampNeg (zA σ 43 ((zI σ 0 79) + x2_).toNatClampNeg)) (fun σ14 =>
      bnd (x2_ + (1 : Int32)) (fun x15 =>
      fX12_enters_b50 N  n x1_ x15 σ14))))))
def fX12_enters (N : Nat) (a1_ : Int32) (σ : zSt) : Option (Unit × zSt) :=
  if (zI σ 0 87) < 0 ∨ 4120 ≤ (zI σ 0 87).toNatClampNeg then none else (
  bnd (zsA σ 47 (zI σ 0 87).toNatClampNeg (zI σ 0 84)) (fun σ1 =>
  if (zI σ1 0 87) < 0 ∨ 4120 ≤ (zI σ1 0 87).toNatClampNeg then none else (
  bnd (zsA σ1 48 (zI σ1 0 87).toNatClampNeg a1_) (fun σ2 =>
  bnd (zsI σ2 0 87 ((zI σ2 0 87) + (1 : Int32))) (fun σ3 =>
  if a1_ < 0 ∨ 1400 ≤ a1_.toNatClampNeg then none else (
  bnd (zsI σ3 0 79 ((zI σ3 0 79) - (zA σ3 10 a1_.toNatClampNeg))) (fun σ4 =>
  bnd (0 : Int32) (fun x5 =>
  fX12_enters_b50 N  N a1_ x5 σ4))))))))
def fX12_parts_b26 (N : Nat)  : Nat → Int32 → Int32 → Int32 → zSt → Option (Unit × zSt)
  | 0, _, _, _, _ => none
  | n + 1, x2_, x3_, x4_, σ =>
    if x4_ < 0 then (
      bnd (zsI σ 0 82 ((zI σ 0 82) + x2_)) (fun σ2 =>
      some ((), σ2)))
    else (
      bnd (x3_ + (-1 : Int32)) (fun x3 =>
      if ((zI σ 0 82) + x3) < 0 ∨ 4120 ≤ ((zI σ 0 82) + x3).toNatClampNeg then none else (
      bnd (zsA σ 44 ((zI σ 0 82) + x3).toNatClampNeg (2 : Int32)) (fun σ4 =>
      if ((zI σ4 0 82) + x3) < 0 ∨ 4120 ≤ ((zI σ4 0 82) + x3).toNatClampNeg then none else (
      bnd (zsA σ4 45 ((zI σ4 0 82) + x3).toNatClampNeg x4_) (fun σ5 =>
      if x4_ < 0 ∨ 4200 ≤ x4_.toNatClampNeg then none else (
      bnd (zA σ5 21 x4_.toNatClampNeg) (fun x6 =>
      fX12_parts_b26 N  n x2_ x3 x6 σ5))))))))
def fX12_parts_b4 (N : Nat)  : Nat → Int32 → Int32 → Int32 → zSt → Option (Unit × zSt)
  | 0, _, _, _, _ => none
  | n + 1, x1_, x2_, x3_, σ =>
    if x3_ < 0 then (
      fX12_parts_b26 N  N x2_ x2_ x1_ σ)
    else (
      bnd (x2_ + (1 : Int32)) (fun x7 =>
      if x3_ < 0 ∨ 4200 ≤ x3_.toNatClampNeg then none else (
      bnd (zA σ 21 x3_.toNatClampNeg) (fun x8 =>
      fX12_parts_b4 N  n x1_ x7 x8 σ))))
def fX12_parts (N : Nat) (a1_ : Int32) (σ : zSt) : Option (Unit × zSt) :=
  bnd (0 : Int32) (fun x1 =>
  fX12_parts_b4 N  N a1_ x1 a1_ σ)
def fX12_begins (N : Nat) (a1_ : Int32) (σ : zSt) : Option (Unit × zSt) :=
  if a1_ < 0 ∨ 4200 ≤ a1_.toNatClampNeg then none else (
  bnd (zA σ 15 a1_.toNatClampNeg) (fun x1 =>
  if x1 = (1 : Int32) then (
    if a1_ < 0 ∨ 4200 ≤ a1_.toNatClampNeg then none else (
    obd (fX12_gives N (zA σ 19 a1_.toNatClampNeg) σ) (fun _ σ3 =>
    some ((), σ3))))
  else if x1 = (2 : Int32) then (
    if a1_ < 0 ∨ 4200 ≤ a1_.toNatClampNeg then none else (
    if (zA σ 19 a1_.toNatClampNeg) < 0 ∨ 4096 ≤ (zA σ 19 a1_.toNatClampNeg).toNatClampNeg then none else (
    obd (fX12_gives N (zA σ 42 (zA σ 19 a1_.toNatClampNeg).toNatClampNeg) σ) (fun _ σ5 =>
    some ((), σ5)))))
  else if x1 = (3 : Int32) then (
    if a1_ < 0 ∨ 4200 ≤ a1_.toNatClampNeg then none else (
    obd (fX12_where N (zA σ 19 a1_.toNatClampNeg) σ) (fun r6 σ7 =>
    if r6 < 0 ∨ 5500 ≤ r6.toNatClampNeg then none else (
    obd (fX12_gives N (zA σ7 46 r6.toNatClampNeg) σ7) (fun _ σ9 =>
    some ((), σ9))))))
  else if x1 = (4 : Int32) then (
    obd (fX12_push N (3 : Int32) a1_ σ) (fun _ σ11 =>
    if a1_ < 0 ∨ 4200 ≤ a1_.toNatClampNeg then none else (
    obd (fX12_push N (2 : Int32) (zA σ11 16 a1_.toNatClampNeg) σ11) (fun _ σ13 =>
    some ((), σ13)))))
  else if x1 = (5 : Int32) then (
    obd (fX12_push N (3 : Int32) a1_ σ) (fun _ σ15 =>
    if a1_ < 0 ∨ 4200 ≤ a1_.toNatClampNeg then none else (
    obd (fX12_push N (2 : Int32) (zA σ15 16 a1_.toNatClampNeg) σ15) (fun _ σ17 =>
    some ((), σ17)))))
  else if x1 = (6 : Int32) then (
    obd (fX12_push N (3 : Int32) a1_ σ) (fun _ σ19 =>
    if a1_ < 0 ∨ 4200 ≤ a1_.toNatClampNeg then none else (
    obd (fX12_push N (2 : Int32) (zA σ19 17 a1_.toNatClampNeg) σ19) (fun _ σ21 =>
    if a1_ < 0 ∨ 4200 ≤ a1_.toNatClampNeg then none else (
    obd (fX12_push N (2 : Int32) (zA σ21 16 a1_.toNatClampNeg) σ21) (fun _ σ23 =>
    some ((), σ23)))))))
  else if x1 = (7 : Int32) then (
    obd (fX12_push N (4 : Int32) a1_ σ) (fun _ σ25 =>
    if a1_ < 0 ∨ 4200 ≤ a1_.toNatClampNeg then none else (
    obd (fX12_push N (2 : Int32) (zA σ25 16 a1_.toNatClampNeg) σ25) (fun _ σ27 =>
    some ((), σ27)))))
  else if x1 = (8 : Int32) then (
    obd (fX12_push N (4 : Int32) a1_ σ) (fun _ σ29 =>
    if a1_ < 0 ∨ 4200 ≤ a1_.toNatClampNeg then none else (
    obd (fX12_push N (2 : Int32) (zA σ29 16 a1_.toNatClampNeg) σ29) (fun _ σ31 =>
    some ((), σ31)))))
  else if x1 = (9 : Int32) then (
    obd (fX12_push N (1 : Int32) a1_ σ) (fun _ σ33 =>
    if a1_ < 0 ∨ 4200 ≤ a1_.toNatClampNeg then none else (
    obd (fX12_parts N (zA σ33 16 a1_.toNatClampNeg) σ33) (fun _ σ35 =>
    some ((), σ35)))))
  else if x1 = (10 : Int32) then (
    if (zI σ 0 12) = (zI σ 0 11) then (
      bnd (zsI σ 0 75 (5 : Int32)) (fun σ39 =>
      some ((), σ39)))
    else (
      if (zI σ 0 12) < 0 ∨ 4096 ≤ (zI σ 0 12).toNatClampNeg then none else (
      obd (fX12_gives N (zA σ 4 (zI σ 0 12).toNatClampNeg) σ) (fun _ σ37 =>
      bnd (zsI σ37 0 12 ((zI σ37 0 12) + (1 : Int32))) (fun σ38 =>
      some ((), σ38))))))
  else (
    obd (fX12_push N (1 : Int32) a1_ σ) (fun _ σ41 =>
    if a1_ < 0 ∨ 4200 ≤ a1_.toNatClampNeg then none else (
    obd (fX12_parts N (zA σ41 16 a1_.toNatClampNeg) σ41) (fun _ σ43 =>
    some ((), σ43)))))))
def fX12_ops_b113 (N : Nat)  (x1_ : Int32) (x2_ : Int32) (x3_ : Int32) (σ : zSt) : Option (Unit × zSt) :=
  if x1_ < 0 ∨ 4200 ≤ x1_.toNatClampNeg then none else (
  obd (fX12_binary_ N (zA σ 19 x1_.toNatClampNeg) x3_ x2_ σ) (fun r5 σ6 =>
  obd (fX12_gives N r5 σ6) (fun _ σ8 =>
  some ((), σ8))))
def fX12_ops_b29 (N : Nat)   (σ : zSt) : Option (Unit × zSt) :=
  bnd (zsI σ 0 75 (3 : Int32)) (fun σ16 =>
  some ((), σ16))
def fX12_ops (N : Nat) (a1_ : Int32) (σ : zSt) : Option (Unit × zSt) :=
  if a1_ < 0 ∨ 4200 ≤ a1_.toNatClampNeg then none else (
  if (zA σ 15 a1_.toNatClampNeg) = (4 : Int32) then (
    obd (fX12_goes N  σ) (fun r14 σ15 =>
    if r14 < 0 then (
      fX12_ops_b29 N   σ15)
    else (
      if a1_ < 0 ∨ 4200 ≤ a1_.toNatClampNeg then none else (
      if r14 < (zA σ15 20 a1_.toNatClampNeg) then (
        if a1_ < 0 ∨ 4200 ≤ a1_.toNatClampNeg then none else (
        if ((zA σ15 19 a1_.toNatClampNeg) + r14) < 0 ∨ 4096 ≤ ((zA σ15 19 a1_.toNatClampNeg) + r14).toNatClampNeg then none else (
        obd (fX12_gives N (zA σ15 42 ((zA σ15 19 a1_.toNatClampNeg) + r14).toNatClampNeg) σ15) (fun _ σ18 =>
        some ((), σ18)))))
      else (
        fX12_ops_b29 N   σ15)))))
  else (
    obd (fX12_goes N  σ) (fun r1 σ2 =>
    if a1_ < 0 ∨ 4200 ≤ a1_.toNatClampNeg then none else (
    if (zA σ2 15 a1_.toNatClampNeg) = (5 : Int32) then (
      if a1_ < 0 ∨ 4200 ≤ a1_.toNatClampNeg then none else (
      obd (fX12_unary N (zA σ2 19 a1_.toNatClampNeg) r1 σ2) (fun r10 σ11 =>
      obd (fX12_gives N r10 σ11) (fun _ σ13 =>
      some ((), σ13)))))
    else (
      obd (fX12_goes N  σ2) (fun r3 σ4 =>
      if r1 = 0 then (
        if a1_ < 0 ∨ 4200 ≤ a1_.toNatClampNeg then none else (
        if (zA σ4 19 a1_.toNatClampNeg) < (27 : Int32) then (
          fX12_ops_b113 N  a1_ r1 r3 σ4)
        else (
          bnd (zsI σ4 0 75 (2 : Int32)) (fun σ9 =>
          some ((), σ9)))))
      else (
        fX12_ops_b113 N  a1_ r1 r3 σ4)))))))
def fX12_logic_b45 (N : Nat)  (s0_ : Int32) (σ : zSt) : Option (Unit × zSt) :=
  obd (fX12_gives N s0_ σ) (fun _ σ8 =>
  some ((), σ8))
def fX12_logic_b29 (N : Nat)  (x1_ : Int32) (x2_ : Int32) (s0_ : Int32) (σ : zSt) : Option (Unit × zSt) :=
  if x2_ = s0_ then (
    if s0_ = 0 then (
      fX12_logic_b45 N  (0 : Int32) σ)
    else (
      fX12_logic_b45 N  (1 : Int32) σ))
  else (
    obd (fX12_push N (5 : Int32) (-1 : Int32) σ) (fun _ σ4 =>
    if x1_ < 0 ∨ 4200 ≤ x1_.toNatClampNeg then none else (
    obd (fX12_push N (2 : Int32) (zA σ4 17 x1_.toNatClampNeg) σ4) (fun _ σ6 =>
    some ((), σ6)))))
def fX12_logic_b12 (N : Nat)  (x1_ : Int32) (s0_ : Int32) (σ : zSt) : Option (Unit × zSt) :=
  if x1_ < 0 ∨ 4200 ≤ x1_.toNatClampNeg then none else (
  if (zA σ 15 x1_.toNatClampNeg) = (8 : Int32) then (
    fX12_logic_b29 N  x1_ s0_ (1 : Int32) σ)
  else (
    fX12_logic_b29 N  x1_ s0_ (0 : Int32) σ))
def fX12_logic (N : Nat) (a1_ : Int32) (σ : zSt) : Option (Unit × zSt) :=
  obd (fX12_goes N  σ) (fun r1 σ2 =>
  if r1 = 0 then (
    fX12_logic_b12 N  a1_ (0 : Int32) σ2)
  else (
    fX12_logic_b12 N  a1_ (1 : Int32) σ2))
def fX12_leaves (N : Nat)  (σ : zSt) : Option (Unit × zSt) :=
  bnd (zsI σ 0 87 ((zI σ 0 87) - (1 : Int32))) (fun σ1 =>
  if (zI σ1 0 87) < 0 ∨ 4120 ≤ (zI σ1 0 87).toNatClampNeg then none else (
  bnd (zsI σ1 0 84 (zA σ1 47 (zI σ1 0 87).toNatClampNeg)) (fun σ2 =>
  some ((), σ2))))
def fX12_states (N : Nat) (a1_ : Int32) (σ : zSt) : Option (Unit × zSt) :=
  if a1_ < 0 ∨ 4200 ≤ a1_.toNatClampNeg then none else (
  bnd (zA σ 15 a1_.toNatClampNeg) (fun x1 =>
  if x1 = (20 : Int32) then (
    if a1_ < 0 ∨ 4200 ≤ a1_.toNatClampNeg then none else (
    if (zA σ 16 a1_.toNatClampNeg) < 0 then (
      some ((), σ))
    else (
      if a1_ < 0 ∨ 4200 ≤ a1_.toNatClampNeg then none else (
      obd (fX12_push N (7 : Int32) (zA σ 16 a1_.toNatClampNeg) σ) (fun _ σ3 =>
      some ((), σ3))))))
  else if x1 = (21 : Int32) then (
    if a1_ < 0 ∨ 4200 ≤ a1_.toNatClampNeg then none else (
    if 0 ≤ (zA σ 16 a1_.toNatClampNeg) then (
      obd (fX12_push N (9 : Int32) a1_ σ) (fun _ σ5 =>
      if a1_ < 0 ∨ 4200 ≤ a1_.toNatClampNeg then none else (
      obd (fX12_push N (2 : Int32) (zA σ5 16 a1_.toNatClampNeg) σ5) (fun _ σ7 =>
      some ((), σ7)))))
    else (
      if a1_ < 0 ∨ 4200 ≤ a1_.toNatClampNeg then none else (
      obd (fX12_where N (zA σ 19 a1_.toNatClampNeg) σ) (fun r8 σ9 =>
      if r8 < 0 ∨ 5500 ≤ r8.toNatClampNeg then none else (
      bnd (zsA σ9 46 r8.toNatClampNeg (0 : Int32)) (fun σ10 =>
      some ((), σ10))))))))
  else if x1 = (22 : Int32) then (
    obd (fX12_push N (9 : Int32) a1_ σ) (fun _ σ12 =>
    if a1_ < 0 ∨ 4200 ≤ a1_.toNatClampNeg then none else (
    obd (fX12_push N (2 : Int32) (zA σ12 16 a1_.toNatClampNeg) σ12) (fun _ σ14 =>
    some ((), σ14)))))
  else if x1 = (23 : Int32) then (
    obd (fX12_push N (9 : Int32) a1_ σ) (fun _ σ16 =>
    if a1_ < 0 ∨ 4200 ≤ a1_.toNatClampNeg then none else (
    obd (fX12_push N (2 : Int32) (zA σ16 16 a1_.toNatClampNeg) σ16) (fun _ σ18 =>
    some ((), σ18)))))
  else if x1 = (24 : Int32) then (
    obd (fX12_push N (9 : Int32) a1_ σ) (fun _ σ20 =>
    if a1_ < 0 ∨ 4200 ≤ a1_.toNatClampNeg then none else (
    obd (fX12_push N (2 : Int32) (zA σ20 16 a1_.toNatClampNeg) σ20) (fun _ σ22 =>
    some ((), σ22)))))
  else if x1 = (25 : Int32) then (
    obd (fX12_push N (9 : Int32) a1_ σ) (fun _ σ24 =>
    if a1_ < 0 ∨ 4200 ≤ a1_.toNatClampNeg then none else (
    obd (fX12_push N (2 : Int32) (zA σ24 16 a1_.toNatClampNeg) σ24) (fun _ σ26 =>
    some ((), σ26)))))
  else if x1 = (26 : Int32) then (
    obd (fX12_push N (9 : Int32) a1_ σ) (fun _ σ28 =>
    if a1_ < 0 ∨ 4200 ≤ a1_.toNatClampNeg then none else (
    obd (fX12_push N (2 : Int32) (zA σ28 16 a1_.toNatClampNeg) σ28) (fun _ σ30 =>
    some ((), σ30)))))
  else if x1 = (27 : Int32) then (
    obd (fX12_push N (9 : Int32) a1_ σ) (fun _ σ32 =>
    if a1_ < 0 ∨ 4200 ≤ a1_.toNatClampNeg then none else (
    obd (fX12_push N (2 : Int32) (zA σ32 16 a1_.toNatClampNeg) σ32) (fun _ σ34 =>
    some ((), σ34)))))
  else if x1 = (28 : Int32) then (
    obd (fX12_push N (9 : Int32) a1_ σ) (fun _ σ36 =>
    if a1_ < 0 ∨ 4200 ≤ a1_.toNatClampNeg then none else (
    obd (fX12_push N (2 : Int32) (zA σ36 17 a1_.toNatClampNeg) σ36) (fun _ σ38 =>
    if a1_ < 0 ∨ 4200 ≤ a1_.toNatClampNeg then none else (
    obd (fX12_push N (2 : Int32) (zA σ38 16 a1_.toNatClampNeg) σ38) (fun _ σ40 =>
    some ((), σ40)))))))
  else if x1 = (29 : Int32) then (
    obd (fX12_push N (10 : Int32) a1_ σ) (fun _ σ42 =>
    if a1_ < 0 ∨ 4200 ≤ a1_.toNatClampNeg then none else (
    obd (fX12_push N (2 : Int32) (zA σ42 16 a1_.toNatClampNeg) σ42) (fun _ σ44 =>
    some ((), σ44)))))
  else if x1 = (30 : Int32) then (
    some ((), σ))
  else (
    obd (fX12_push N (9 : Int32) a1_ σ) (fun _ σ46 =>
    if a1_ < 0 ∨ 4200 ≤ a1_.toNatClampNeg then none else (
    obd (fX12_push N (2 : Int32) (zA σ46 16 a1_.toNatClampNeg) σ46) (fun _ σ48 =>
    some ((), σ48)))))))
def fX12_does_b216 (N : Nat)  : Nat → zSt → Option (Unit × zSt)
  | 0, _ => none
  | n + 1, σ =>
    if ((zI σ 0 82) - (1 : Int32)) < 0 ∨ 4120 ≤ ((zI σ 0 82) - (1 : Int32)).toNatClampNeg then none else (
    if (zA σ 44 ((zI σ 0 82) - (1 : Int32)).toNatClampNeg) = (6 : Int32) then (
      bnd (zsI σ 0 82 ((zI σ 0 82) - (1 : Int32))) (fun σ17 =>
      obd (fX12_leaves N  σ17) (fun _ σ19 =>
      some ((), σ19))))
    else (
      bnd (zsI σ 0 82 ((zI σ 0 82) - (1 : Int32))) (fun σ20 =>
      fX12_does_b216 N  n  σ20)))
def fX12_does_b186 (N : Nat)   (σ : zSt) : Option (Unit × zSt) :=
  bnd (zsI σ 0 75 (3 : Int32)) (fun σ29 =>
  some ((), σ29))
def fX12_does (N : Nat) (a1_ : Int32) (σ : zSt) : Option (Unit × zSt) :=
  obd (fX12_goes N  σ) (fun r1 σ2 =>
  if a1_ < 0 ∨ 4200 ≤ a1_.toNatClampNeg then none else (
  bnd (zA σ2 15 a1_.toNatClampNeg) (fun x3 =>
  if x3 = (21 : Int32) then (
    if a1_ < 0 ∨ 4200 ≤ a1_.toNatClampNeg then none else (
    obd (fX12_where N (zA σ2 19 a1_.toNatClampNeg) σ2) (fun r4 σ5 =>
    if r4 < 0 ∨ 5500 ≤ r4.toNatClampNeg then none else (
    bnd (zsA σ5 46 r4.toNatClampNeg r1) (fun σ6 =>
    some ((), σ6))))))
  else if x3 = (22 : Int32) then (
    if r1 = 0 then (
      if a1_ < 0 ∨ 4200 ≤ a1_.toNatClampNeg then none else (
      if (zA σ2 18 a1_.toNatClampNeg) < 0 then (
        some ((), σ2))
      else (
        if a1_ < 0 ∨ 4200 ≤ a1_.toNatClampNeg then none else (
        obd (fX12_push N (8 : Int32) (zA σ2 18 a1_.toNatClampNeg) σ2) (fun _ σ8 =>
        some ((), σ8))))))
    else (
      if a1_ < 0 ∨ 4200 ≤ a1_.toNatClampNeg then none else (
      obd (fX12_push N (8 : Int32) (zA σ2 17 a1_.toNatClampNeg) σ2) (fun _ σ10 =>
      some ((), σ10)))))
  else if x3 = (23 : Int32) then (
    if r1 = 0 then (
      some ((), σ2))
    else (
      obd (fX12_push N (8 : Int32) a1_ σ2) (fun _ σ12 =>
      if a1_ < 0 ∨ 4200 ≤ a1_.toNatClampNeg then none else (
      obd (fX12_push N (8 : Int32) (zA σ12 17 a1_.toNatClampNeg) σ12) (fun _ σ14 =>
      some ((), σ14))))))
  else if x3 = (24 : Int32) then (
    obd (fX12_gives N r1 σ2) (fun _ σ16 =>
    fX12_does_b216 N  N  σ16))
  else if x3 = (25 : Int32) then (
    obd (fX12_comesOut N r1 σ2) (fun _ σ22 =>
    some ((), σ22)))
  else if x3 = (26 : Int32) then (
    if a1_ < 0 ∨ 4200 ≤ a1_.toNatClampNeg then none else (
    if (zA σ2 19 a1_.toNatClampNeg) < 0 ∨ 4096 ≤ (zA σ2 19 a1_.toNatClampNeg).toNatClampNeg then none else (
    bnd (zsA σ2 42 (zA σ2 19 a1_.toNatClampNeg).toNatClampNeg r1) (fun σ23 =>
    some ((), σ23)))))
  else if x3 = (27 : Int32) then (
    if a1_ < 0 ∨ 4200 ≤ a1_.toNatClampNeg then none else (
    obd (fX12_where N (zA σ2 19 a1_.toNatClampNeg) σ2) (fun r24 σ25 =>
    if r24 < 0 ∨ 5500 ≤ r24.toNatClampNeg then none else (
    bnd (zsA σ25 46 r24.toNatClampNeg r1) (fun σ26 =>
    some ((), σ26))))))
  else if x3 = (28 : Int32) then (
    obd (fX12_goes N  σ2) (fun r27 σ28 =>
    if r27 < 0 then (
      fX12_does_b186 N   σ28)
    else (
      if a1_ < 0 ∨ 4200 ≤ a1_.toNatClampNeg then none else (
      if r27 < (zA σ28 20 a1_.toNatClampNeg) then (
        if a1_ < 0 ∨ 4200 ≤ a1_.toNatClampNeg then none else (
        if ((zA σ28 19 a1_.toNatClampNeg) + r27) < 0 ∨ 4096 ≤ ((zA σ28 19 a1_.toNatClampNeg) + r27).toNatClampNeg then none else (
        bnd (zsA σ28 42 ((zA σ28 19 a1_.toNatClampNeg) + r27).toNatClampNeg r1) (fun σ30 =>
        some ((), σ30)))))
      else (
        fX12_does_b186 N   σ28)))))
  else (
    obd (fX12_gives N r1 σ2) (fun _ σ32 =>
    fX12_does_b216 N  N  σ32)))))
def fX12_takesItem_b73 (N : Nat)  (s0_ : Int32) (σ : zSt) : Option (Unit × zSt) :=
  obd (fX12_enters N s0_ σ) (fun _ σ2 =>
  some ((), σ2))
def fX12_takesItem_b116 (N : Nat)  (s0_ : Int32) (σ : zSt) : Option (Unit × zSt) :=
  obd (fX12_gives N s0_ σ) (fun _ σ14 =>
  some ((), σ14))
def fX12_takesItem_b155 (N : Nat)  (x2_ : Int32) (σ : zSt) : Option (Unit × zSt) :=
  obd (fX12_push N (8 : Int32) x2_ σ) (fun _ σ20 =>
  some ((), σ20))
def fX12_takesItem (N : Nat) (a1_ : Int32) (a2_ : Int32) (σ : zSt) : Option (Unit × zSt) :=
  if a1_ = (1 : Int32) then (
    if 0 ≤ a2_ then (
      if a2_ < 0 ∨ 4200 ≤ a2_.toNatClampNeg then none else (
      fX12_takesItem_b73 N  (zA σ 19 a2_.toNatClampNeg) σ))
    else (
      obd (fX12_named N (1835100526 : Int64) σ) (fun r3 σ4 =>
      fX12_takesItem_b73 N  r3 σ4)))
  else if a1_ = (2 : Int32) then (
    obd (fX12_begins N a2_ σ) (fun _ σ6 =>
    some ((), σ6)))
  else if a1_ = (3 : Int32) then (
    obd (fX12_ops N a2_ σ) (fun _ σ8 =>
    some ((), σ8)))
  else if a1_ = (4 : Int32) then (
    obd (fX12_logic N a2_ σ) (fun _ σ10 =>
    some ((), σ10)))
  else if a1_ = (5 : Int32) then (
    obd (fX12_goes N  σ) (fun r11 σ12 =>
    if r11 = 0 then (
      fX12_takesItem_b116 N  (0 : Int32) σ12)
    else (
      fX12_takesItem_b116 N  (1 : Int32) σ12)))
  else if a1_ = (6 : Int32) then (
    obd (fX12_gives N (0 : Int32) σ) (fun _ σ16 =>
    obd (fX12_leaves N  σ16) (fun _ σ18 =>
    some ((), σ18))))
  else if a1_ = (7 : Int32) then (
    if a2_ < 0 ∨ 4200 ≤ a2_.toNatClampNeg then none else (
    if (zA σ 21 a2_.toNatClampNeg) < 0 then (
      fX12_takesItem_b155 N  a2_ σ)
    else (
      if a2_ < 0 ∨ 4200 ≤ a2_.toNatClampNeg then none else (
      obd (fX12_push N (7 : Int32) (zA σ 21 a2_.toNatClampNeg) σ) (fun _ σ22 =>
      fX12_takesItem_b155 N  a2_ σ22)))))
  else if a1_ = (8 : Int32) then (
    obd (fX12_states N a2_ σ) (fun _ σ24 =>
    some ((), σ24)))
  else if a1_ = (9 : Int32) then (
    obd (fX12_does N a2_ σ) (fun _ σ26 =>
    some ((), σ26)))
  else (
    obd (fX12_goes N  σ) (fun r27 σ28 =>
    some ((), σ28)))
def fX12_goesOn_b133 (N : Nat)  (s0_ : Int32) (σ : zSt) : Option (Unit × zSt) :=
  bnd (zsI σ 0 75 s0_) (fun σ8 =>
  some ((), σ8))
def fX12_goesOn (N : Nat)  (σ : zSt) : Option (Unit × zSt) :=
  if (zI σ 0 29) ≤ (zI σ 0 8) then (
    bnd (zsI σ 0 82 ((zI σ 0 82) - (1 : Int32))) (fun σ1 =>
    if (zI σ1 0 82) < 0 ∨ 4120 ≤ (zI σ1 0 82).toNatClampNeg then none else (
    bnd (zA σ1 44 (zI σ1 0 82).toNatClampNeg) (fun x2 =>
    if (zI σ1 0 82) < 0 ∨ 4120 ≤ (zI σ1 0 82).toNatClampNeg then none else (
    bnd (zA σ1 45 (zI σ1 0 82).toNatClampNeg) (fun x3 =>
    obd (fX12_takesItem N x2 x3 σ1) (fun _ σ5 =>
    if (zI σ5 0 75) = 0 then (
      if ((((zI σ5 0 79) + (zI σ5 0 82)) + (zI σ5 0 29)) + (zI σ5 0 84)) ≤ (zI σ5 0 8) then (
        if (zI σ5 0 82) = 0 then (
          if ((zI σ5 0 79) - (1 : Int32)) < 0 ∨ 4120 ≤ ((zI σ5 0 79) - (1 : Int32)).toNatClampNeg then none else (
          obd (fX12_comesOut N (zA σ5 43 ((zI σ5 0 79) - (1 : Int32)).toNatClampNeg) σ5) (fun _ σ7 =>
          if (zI σ7 0 75) = 0 then (
            fX12_goesOn_b133 N  (1 : Int32) σ7)
          else (
            fX12_goesOn_b133 N  (zI σ7 0 75) σ7))))
        else (
          some ((), σ5)))
      else (
        bnd (zsI σ5 0 75 (4 : Int32)) (fun σ9 =>
        some ((), σ9))))
    else (
      some ((), σ5)))))))))
  else (
    bnd (zsI σ 0 75 (4 : Int32)) (fun σ10 =>
    some ((), σ10)))
def fX12_interpret_b22 (N : Nat)  : Nat → Int32 → Int32 → zSt → Option (Int32 × zSt)
  | 0, _, _, _ => none
  | n + 1, x1_, x2_, σ =>
    if x1_ ≤ x2_ then (
      some (zI σ 0 75, σ))
    else (
      if (zI σ 0 75) = 0 then (
        bnd (zsI σ 0 76 (2 : Int32)) (fun σ2 =>
        obd (fX12_goesOn N  σ2) (fun _ σ4 =>
        bnd (x2_ + (1 : Int32)) (fun x5 =>
        fX12_interpret_b22 N  n x1_ x5 σ4))))
      else (
        some (zI σ 0 75, σ)))
def fX12_interpret (N : Nat) (a1_ : Int32) (σ : zSt) : Option (Int32 × zSt) :=
  if (zI σ 0 71) = 0 then (
    some ((-1 : Int32), σ))
  else (
    if (zI σ 0 76) = (1 : Int32) then (
      some ((-2 : Int32), σ))
    else (
      bnd (0 : Int32) (fun x1 =>
      fX12_interpret_b22 N  N a1_ x1 σ)))
def fX12_outSize (N : Nat)  (σ : zSt) : Option (Int32 × zSt) :=
  some (zI σ 0 14, σ)
def fX12_out_b12 (N : Nat)   (σ : zSt) : Option (Int32 × zSt) :=
  some ((-1 : Int32), σ)
def fX12_out (N : Nat) (a1_ : Int32) (σ : zSt) : Option (Int32 × zSt) :=
  if a1_ < 0 then (
    fX12_out_b12 N   σ)
  else (
    if a1_ < (zI σ 0 14) then (
      if a1_ < 0 ∨ 4096 ≤ a1_.toNatClampNeg then none else (
      some (zA σ 5 a1_.toNatClampNeg, σ)))
    else (
      fX12_out_b12 N   σ))
def fX12_codeSize (N : Nat)  (σ : zSt) : Option (Int32 × zSt) :=
  some (zI σ 0 6, σ)
def fX12_codeAt_b12 (N : Nat)   (σ : zSt) : Option (Int32 × zSt) :=
  some ((-1 : Int32), σ)
def fX12_codeAt (N : Nat) (a1_ : Int32) (σ : zSt) : Option (Int32 × zSt) :=
  if a1_ < 0 then (
    fX12_codeAt_b12 N   σ)
  else (
    if a1_ < (zI σ 0 6) then (
      if a1_ < 0 ∨ 4096 ≤ a1_.toNatClampNeg then none else (
      some (zA σ 2 a1_.toNatClampNeg, σ)))
    else (
      fX12_codeAt_b12 N   σ))
