def FU : Nat := 1000
def f_X4_isSheet (a0 : Int32) (μ : Mem) : Option (Int32 × Mem) :=
  if a0 < 0 then
   (some ((0 : Int32), μ))
  else
   (if (4 : Int32) ≤ a0 then
    (some ((0 : Int32), μ))
   else
    (some ((1 : Int32), μ)))
def f_X4_isLane (a0 : Int32) (μ : Mem) : Option (Int32 × Mem) :=
  if a0 < 0 then
   (some ((0 : Int32), μ))
  else
   (if (3 : Int32) ≤ a0 then
    (some ((0 : Int32), μ))
   else
    (some ((1 : Int32), μ)))
def f_X2_faultAs (q0 : Nat) (a1 : Int32) (μ : Mem) : Option (Int32 × Mem) :=
  if μ q0 1 = 0 then
   (some ((1 : Int32), μ))
  else
   (if μ q0 2 = a1 then
    (some ((0 : Int32), μ))
   else
    (some ((2 : Int32), μ)))
def f_X2_hasCells (q0 : Nat) (a1 : Int32) (a2 : Int32) (μ : Mem) : Option (Int32 × Mem) :=
  if a1 < 0 then
   (some ((0 : Int32), μ))
  else
   (if a2 < 0 then
    (some ((0 : Int32), μ))
   else
    (if μ q0 3 < a1 then
     (some ((0 : Int32), μ))
    else
     (if (μ q0 3 - a1) < a2 then
      (some ((0 : Int32), μ))
     else
      (some ((1 : Int32), μ)))))
def f_X4_failed (a1 : Int32) (μ : Mem) : Option (Int32 × Mem) :=
  lt (up μ 0 11 a1) fun μ1 =>
  some (((-10 : Int32) - a1), μ1)
def f_X1_begin (q0 : Nat) (μ : Mem) : Option (Mem) :=
  lt (up μ q0 5 (0 : Int32)) fun μ1 =>
  lt (up μ1 q0 6 (0 : Int32)) fun μ2 =>
  lt (up μ2 q0 7 (4 : Int32)) fun μ3 =>
  lt (up μ3 q0 8 (1 : Int32)) fun μ4 =>
  lt (up μ4 q0 9 (7 : Int32)) fun μ5 =>
  some μ5
def f_X3_kindOf (a0 : Int32) (μ : Mem) : Option (Int32 × Mem) :=
  if a0 = (68 : Int32) then
   (some ((2 : Int32), μ))
  else
   (if a0 = (76 : Int32) then
    (some ((1 : Int32), μ))
   else
    (if a0 = (80 : Int32) then
     (some ((0 : Int32), μ))
    else
     (some ((-9 : Int32), μ))))
def f_X3_isDigit (a0 : Int32) (μ : Mem) : Option (Int32 × Mem) :=
  if a0 < (49 : Int32) then
   (some ((0 : Int32), μ))
  else
   (if (57 : Int32) < a0 then
    (some ((0 : Int32), μ))
   else
    (some ((1 : Int32), μ)))
def f_X3_anchorOf (a0 : Int32) (μ : Mem) : Option (Int32 × Mem) :=
  if a0 = (45 : Int32) then
   (some ((4 : Int32), μ))
  else
   (if a0 < (97 : Int32) then
    (some ((-9 : Int32), μ))
   else
    (if (100 : Int32) < a0 then
     (some ((-9 : Int32), μ))
    else
     (some ((a0 - (97 : Int32)), μ))))
def f_X3_goesOnInLeft (a1 : Int32) (q2 : Nat) (μ : Mem) : Option (Int32 × Mem) :=
  lt (μ q2 5) fun x1 =>
  if x1 < (7 : Int32) then
   (if μ 32 0 = (2 : Int32) then
    (lt (up μ 32 0 (3 : Int32)) fun μ11 =>
    b2 (f_X3_kindOf a1 μ11) fun x13 μ12 =>
    ck (inb x1 7) <|
    lt (up μ12 (q2 + 1) x1.toNatClampNeg x13) fun μ14 =>
    ck (inb x1 7) <|
    if μ14 (q2 + 1) x1.toNatClampNeg = (-9 : Int32) then
     (some ((0 : Int32), μ14))
    else
     (some ((1 : Int32), μ14)))
   else
    (if μ 32 0 = (3 : Int32) then
     (lt (up μ 32 0 (4 : Int32)) fun μ7 =>
     ck (inb x1 7) <|
     lt (up μ7 (q2 + 2) x1.toNatClampNeg (a1 - (48 : Int32))) fun μ8 =>
     b2 (f_X3_isDigit a1 μ8) fun x10 μ9 =>
     ck (bo x10) (some (x10, μ9)))
    else
     (lt (up μ 32 0 (5 : Int32)) fun μ2 =>
     b2 (f_X3_anchorOf a1 μ2) fun x4 μ3 =>
     ck (inb x1 7) <|
     lt (up μ3 (q2 + 3) x1.toNatClampNeg x4) fun μ5 =>
     lt (up μ5 q2 5 (μ5 q2 5 + (1 : Int32))) fun μ6 =>
     ck (inb x1 7) <|
     if μ6 (q2 + 3) x1.toNatClampNeg = (-9 : Int32) then
      (some ((0 : Int32), μ6))
     else
      (some ((1 : Int32), μ6)))))
  else
   (some ((0 : Int32), μ))
def f_X3_goesOnInRight (a1 : Int32) (q2 : Nat) (μ : Mem) : Option (Int32 × Mem) :=
  lt (μ q2 6) fun x1 =>
  if x1 < (7 : Int32) then
   (if μ 32 0 = (6 : Int32) then
    (lt (up μ 32 0 (7 : Int32)) fun μ7 =>
    ck (inb x1 7) <|
    lt (up μ7 (q2 + 4) x1.toNatClampNeg (a1 - (48 : Int32))) fun μ8 =>
    b2 (f_X3_isDigit a1 μ8) fun x10 μ9 =>
    ck (bo x10) (some (x10, μ9)))
   else
    (lt (up μ 32 0 (8 : Int32)) fun μ2 =>
    b2 (f_X3_anchorOf a1 μ2) fun x4 μ3 =>
    ck (inb x1 7) <|
    lt (up μ3 (q2 + 5) x1.toNatClampNeg x4) fun μ5 =>
    lt (up μ5 q2 6 (μ5 q2 6 + (1 : Int32))) fun μ6 =>
    ck (inb x1 7) <|
    if μ6 (q2 + 5) x1.toNatClampNeg = (-9 : Int32) then
     (some ((0 : Int32), μ6))
    else
     (some ((1 : Int32), μ6))))
  else
   (some ((0 : Int32), μ))
def jn_X3_goesOn_103 (x1v : Int32) (r2v : Nat) (s0v : Int32) (μ : Mem) : Option (Int32 × Mem) :=
  lt (up μ 32 0 s0v) fun μ10 =>
  if x1v = (44 : Int32) then
   (some ((1 : Int32), μ10))
  else
   (if x1v = (59 : Int32) then
    (if (7 : Int32) ≤ μ10 r2v 5 then
     (some ((0 : Int32), μ10))
    else
     (some ((1 : Int32), μ10)))
   else
    (some ((0 : Int32), μ10)))
def f_X3_goesOn (a1 : Int32) (q2 : Nat) (μ : Mem) : Option (Int32 × Mem) :=
  lt (μ 32 0) fun x1 =>
  if x1 = (0 : Int32) then
   (lt (up μ 32 0 (1 : Int32)) fun μ2 =>
   if a1 = (98 : Int32) then
    (some ((1 : Int32), μ2))
   else
    (some ((0 : Int32), μ2)))
  else
   (if x1 = (1 : Int32) then
    (lt (up μ 32 0 (2 : Int32)) fun μ3 =>
    if a1 = (59 : Int32) then
     (some ((1 : Int32), μ3))
    else
     (some ((0 : Int32), μ3)))
   else
    (if x1 = (2 : Int32) then
     (b2 (f_X3_goesOnInLeft a1 q2 μ) fun x5 μ4 =>
     ck (bo x5) (some (x5, μ4)))
    else
     (if x1 = (3 : Int32) then
      (b2 (f_X3_goesOnInLeft a1 q2 μ) fun x7 μ6 =>
      ck (bo x7) (some (x7, μ6)))
     else
      (if x1 = (4 : Int32) then
       (b2 (f_X3_goesOnInLeft a1 q2 μ) fun x9 μ8 =>
       ck (bo x9) (some (x9, μ8)))
      else
       (if x1 = (5 : Int32) then
        (if a1 = (59 : Int32) then
         (jn_X3_goesOn_103 a1 q2 (2 : Int32) μ)
        else
         (jn_X3_goesOn_103 a1 q2 (6 : Int32) μ))
       else
        (if x1 = (6 : Int32) then
         (b2 (f_X3_goesOnInRight a1 q2 μ) fun x12 μ11 =>
         ck (bo x12) (some (x12, μ11)))
        else
         (if x1 = (7 : Int32) then
          (b2 (f_X3_goesOnInRight a1 q2 μ) fun x14 μ13 =>
          ck (bo x14) (some (x14, μ13)))
         else
          (if x1 = (8 : Int32) then
           (lt (up μ 32 0 (6 : Int32)) fun μ15 =>
           if a1 = (44 : Int32) then
            (if (7 : Int32) ≤ μ15 q2 6 then
             (some ((0 : Int32), μ15))
            else
             (some ((1 : Int32), μ15)))
           else
            (some ((0 : Int32), μ15)))
          else
           (b2 (f_X3_goesOnInRight a1 q2 μ) fun x17 μ16 =>
           ck (bo x17) (some (x17, μ16)))))))))))
def lp_X3_firstFault_13 (r1v : Nat) (x2v : Int32) (x3v : Int32) (r4v : Nat) : Nat → Int32 → Mem → Option ((Mem) ⊕ (Int32 × Mem))
  | 0, _, _ => none
  | n + 1, x5v, μ =>
    if x3v ≤ x5v then
     (some (.inl μ))
    else
     (ck (inb (x2v + x5v) 60) <|
     b2 (f_X3_goesOn (μ (r1v + 1) (x2v + x5v).toNatClampNeg) r4v μ) fun x4 μ3 =>
     if x4 = 0 then
      (some (.inr (x5v, μ3)))
     else
      (lt (x5v + (1 : Int32)) fun x5 =>
      lp_X3_firstFault_13 r1v x2v x3v r4v n x5 μ3))
def f_X3_firstFault (q1 : Nat) (a2 : Int32) (a3 : Int32) (q4 : Nat) (μ : Mem) : Option (Int32 × Mem) :=
  b1 (f_X1_begin q4 μ) fun μ1 =>
  lt (up μ1 32 0 (0 : Int32)) fun μ2 =>
  s1 (lp_X3_firstFault_13 q1 a2 a3 q4 FU (0 : Int32) μ2) (fun μ6 =>
   if μ6 32 0 = (8 : Int32) then
    (some ((-9 : Int32), μ6))
   else
    (some (a3, μ6))) (fun o => some o)
def f_X1_becomeLike (q0 : Nat) (q1 : Nat) (μ : Mem) : Option (Mem) :=
  lt (up μ q0 5 (μ q1 5)) fun μ1 =>
  lt (up μ1 q0 6 (μ1 q1 6)) fun μ2 =>
  lt (up μ2 q0 7 (μ2 q1 7)) fun μ3 =>
  lt (up μ3 q0 8 (μ3 q1 8)) fun μ4 =>
  lt (up μ4 q0 9 (μ4 q1 9)) fun μ5 =>
  ck (cpk (0 : Int32) (0 : Int32) (7 : Int32) 7 7) <|
  lt (cpm μ5 (q1 + 1) (0 : Int32).toNatClampNeg (q0 + 1) (0 : Int32).toNatClampNeg (7 : Int32).toNatClampNeg) fun μ6 =>
  ck (cpk (0 : Int32) (0 : Int32) (7 : Int32) 7 7) <|
  lt (cpm μ6 (q1 + 2) (0 : Int32).toNatClampNeg (q0 + 2) (0 : Int32).toNatClampNeg (7 : Int32).toNatClampNeg) fun μ7 =>
  ck (cpk (0 : Int32) (0 : Int32) (7 : Int32) 7 7) <|
  lt (cpm μ7 (q1 + 3) (0 : Int32).toNatClampNeg (q0 + 3) (0 : Int32).toNatClampNeg (7 : Int32).toNatClampNeg) fun μ8 =>
  ck (cpk (0 : Int32) (0 : Int32) (7 : Int32) 7 7) <|
  lt (cpm μ8 (q1 + 4) (0 : Int32).toNatClampNeg (q0 + 4) (0 : Int32).toNatClampNeg (7 : Int32).toNatClampNeg) fun μ9 =>
  ck (cpk (0 : Int32) (0 : Int32) (7 : Int32) 7 7) <|
  lt (cpm μ9 (q1 + 5) (0 : Int32).toNatClampNeg (q0 + 5) (0 : Int32).toNatClampNeg (7 : Int32).toNatClampNeg) fun μ10 =>
  some μ10
def jn_X4_books_72 (x3v : Int32) (x4v : Int32) (r5v : Nat) (x6v : Int32) (μ : Mem) : Option (Int32 × Mem) :=
  if x6v = 0 then
   (b2 (f_X3_firstFault r5v x3v x4v 8 μ) fun x10 μ9 =>
   if x10 = (-9 : Int32) then
    (b1 (f_X1_becomeLike 2 8 μ9) fun μ11 =>
    lt (up μ11 0 8 (0 : Int32)) fun μ12 =>
    lt (up μ12 0 9 (0 : Int32)) fun μ13 =>
    some ((μ13 2 5 + μ13 2 6), μ13))
   else
    (some (((-100 : Int32) - x10), μ9)))
  else
   (b2 (f_X4_failed x6v μ) fun x15 μ14 =>
   some (x15, μ14))
def jn_X4_books_53 (x3v : Int32) (x4v : Int32) (r5v : Nat) (x6v : Int32) (μ : Mem) : Option (Int32 × Mem) :=
  if x6v = 0 then
   (b2 (f_X2_hasCells r5v x3v x4v μ) fun x17 μ16 =>
   if x17 = 0 then
    (jn_X4_books_72 x3v x4v r5v (3 : Int32) μ16)
   else
    (jn_X4_books_72 x3v x4v r5v x6v μ16))
  else
   (jn_X4_books_72 x3v x4v r5v x6v μ)
def f_X4_books (a1 : Int32) (a2 : Int32) (a3 : Int32) (a4 : Int32) (μ : Mem) : Option (Int32 × Mem) :=
  lt (up μ 0 11 (0 : Int32)) fun μ1 =>
  b2 (f_X4_isSheet a1 μ1) fun x3 μ2 =>
  if x3 = 0 then
   (some ((-1 : Int32), μ2))
  else
   (b2 (f_X4_isLane a2 μ2) fun x5 μ4 =>
   if x5 = 0 then
    (some ((-2 : Int32), μ4))
   else
    (ck (inb a1 4) <| lt (shc a1) fun q6 =>
    b2 (f_X2_faultAs q6 a2 μ4) fun x8 μ7 =>
    if x8 = 0 then
     (if 0 ≤ a4 then
      (jn_X4_books_53 a3 a4 q6 x8 μ7)
     else
      (jn_X4_books_53 a3 a4 q6 (4 : Int32) μ7))
    else
     (jn_X4_books_53 a3 a4 q6 x8 μ7)))
def f_X1_hasLeft (q0 : Nat) (a1 : Int32) (μ : Mem) : Option (Int32 × Mem) :=
  if a1 < 0 then
   (some ((0 : Int32), μ))
  else
   (if μ q0 5 ≤ a1 then
    (some ((0 : Int32), μ))
   else
    (some ((1 : Int32), μ)))
def f_X1_leftLength (q0 : Nat) (a1 : Int32) (μ : Mem) : Option (Int32 × Mem) :=
  ck (inb a1 7) <|
  lt (μ (q0 + 1) a1.toNatClampNeg) fun x1 =>
  if x1 = (1 : Int32) then
   (ck (inb a1 7) <|
   some ((μ (q0 + 2) a1.toNatClampNeg + (1 : Int32)), μ))
  else
   (if x1 = (2 : Int32) then
    (ck (inb a1 7) <|
    some (((2 : Int32) * μ (q0 + 2) a1.toNatClampNeg), μ))
   else
    (ck (inb a1 7) <|
    some (μ (q0 + 2) a1.toNatClampNeg, μ)))
def f_X1_hasRight (q0 : Nat) (a1 : Int32) (μ : Mem) : Option (Int32 × Mem) :=
  if a1 < 0 then
   (some ((0 : Int32), μ))
  else
   (if μ q0 6 ≤ a1 then
    (some ((0 : Int32), μ))
   else
    (some ((1 : Int32), μ)))
def jn_X1_hasPair_74 (x6v : Int32) (s0v : Int32) (μ : Mem) : Option (Int32 × Mem) :=
  if x6v = 0 then
   (some ((0 : Int32), μ))
  else
   (if s0v = 0 then
    (some ((0 : Int32), μ))
   else
    (some ((1 : Int32), μ)))
def jn_X1_hasPair_69 (x6v : Int32) (μ : Mem) : Option (Int32 × Mem) :=
  jn_X1_hasPair_74 x6v (1 : Int32) μ
def jn_X1_hasPair_73 (x6v : Int32) (μ : Mem) : Option (Int32 × Mem) :=
  jn_X1_hasPair_74 x6v (0 : Int32) μ
def jn_X1_hasPair_43 (r0v : Nat) (x3v : Int32) (x5v : Int32) (s0v : Int32) (μ : Mem) : Option (Int32 × Mem) :=
  if x5v = 0 then
   (jn_X1_hasPair_69 s0v μ)
  else
   (b2 (f_X1_hasRight r0v x3v μ) fun x4 μ3 =>
   if x4 = 0 then
    (jn_X1_hasPair_73 s0v μ3)
   else
    (if (μ3 r0v 6 - x3v) < x5v then
     (jn_X1_hasPair_73 s0v μ3)
    else
     (jn_X1_hasPair_69 s0v μ3)))
def jn_X1_hasPair_38 (r0v : Nat) (x3v : Int32) (x5v : Int32) (μ : Mem) : Option (Int32 × Mem) :=
  jn_X1_hasPair_43 r0v x3v x5v (1 : Int32) μ
def jn_X1_hasPair_42 (r0v : Nat) (x3v : Int32) (x5v : Int32) (μ : Mem) : Option (Int32 × Mem) :=
  jn_X1_hasPair_43 r0v x3v x5v (0 : Int32) μ
def f_X1_hasPair (q0 : Nat) (a1 : Int32) (a2 : Int32) (a3 : Int32) (μ : Mem) : Option (Int32 × Mem) :=
  ck (inb a1 5) <|
  lt (stv 0 a1.toNatClampNeg) fun x1 =>
  ck (inb a1 5) <|
  lt (stv 1 a1.toNatClampNeg) fun x2 =>
  if x1 = 0 then
   (jn_X1_hasPair_38 q0 a3 x2 μ)
  else
   (b2 (f_X1_hasLeft q0 a2 μ) fun x6 μ5 =>
   if x6 = 0 then
    (jn_X1_hasPair_42 q0 a3 x2 μ5)
   else
    (if (μ5 q0 5 - a2) < x1 then
     (jn_X1_hasPair_42 q0 a3 x2 μ5)
    else
     (jn_X1_hasPair_38 q0 a3 x2 μ5)))
def f_X1_anchorSet (a0 : Int32) (μ : Mem) : Option (Int32 × Mem) :=
  if a0 = (4 : Int32) then
   (some ((0 : Int32), μ))
  else
   (some (((1 : Int32) <<< (a0 &&& 31)), μ))
def jn_X1_pairCost_164 (x4v : Int32) (x6v : Int32) (x8v : Int32) (s0v : Int32) (μ : Mem) : Option (Int32 × Mem) :=
  some ((((mabs (x4v - x6v)) + s0v) + x8v), μ)
def jn_X1_pairCost_152 (x4v : Int32) (x5v : Int32) (x6v : Int32) (x7v : Int32) (x8v : Int32) (μ : Mem) : Option (Int32 × Mem) :=
  if x5v = x7v then
   (jn_X1_pairCost_164 x4v x6v x8v (0 : Int32) μ)
  else
   (jn_X1_pairCost_164 x4v x6v x8v (3 : Int32) μ)
def jn_X1_pairCost_112 (r0v : Nat) (x1v : Int32) (x3v : Int32) (x4v : Int32) (x5v : Int32) (x6v : Int32) (x7v : Int32) (x8v : Int32) (μ : Mem) : Option (Int32 × Mem) :=
  if x1v = (4 : Int32) then
   (ck (inb (x3v + (1 : Int32)) 7) <|
   lt (x6v + μ (r0v + 4) (x3v + (1 : Int32)).toNatClampNeg) fun x8 =>
   ck (inb (x3v + (1 : Int32)) 7) <|
   b2 (f_X1_anchorSet (μ (r0v + 5) (x3v + (1 : Int32)).toNatClampNeg) μ) fun x10 μ9 =>
   lt (x7v ||| x10) fun x11 =>
   lt (μ9 r0v 8) fun x12 =>
   jn_X1_pairCost_152 x4v x5v x8 x11 x12 μ9)
  else
   (jn_X1_pairCost_152 x4v x5v x6v x7v x8v μ)
def f_X1_pairCost (q0 : Nat) (a1 : Int32) (a2 : Int32) (a3 : Int32) (μ : Mem) : Option (Int32 × Mem) :=
  if a1 = (1 : Int32) then
   (b2 (f_X1_leftLength q0 a2 μ) fun x21 μ20 =>
   some ((μ q0 7 + x21), μ20))
  else
   (if a1 = (2 : Int32) then
    (ck (inb a3 7) <|
    some ((μ q0 7 + μ (q0 + 4) a3.toNatClampNeg), μ))
   else
    (b2 (f_X1_leftLength q0 a2 μ) fun x2 μ1 =>
    ck (inb a2 7) <|
    b2 (f_X1_anchorSet (μ1 (q0 + 3) a2.toNatClampNeg) μ1) fun x4 μ3 =>
    ck (inb a3 7) <|
    lt (μ3 (q0 + 4) a3.toNatClampNeg) fun x5 =>
    ck (inb a3 7) <|
    b2 (f_X1_anchorSet (μ3 (q0 + 5) a3.toNatClampNeg) μ3) fun x7 μ6 =>
    if a1 = (3 : Int32) then
     (b2 (f_X1_leftLength q0 (a2 + (1 : Int32)) μ6) fun x14 μ13 =>
     lt (x2 + x14) fun x15 =>
     ck (inb (a2 + (1 : Int32)) 7) <|
     b2 (f_X1_anchorSet (μ13 (q0 + 3) (a2 + (1 : Int32)).toNatClampNeg) μ13) fun x17 μ16 =>
     lt (x4 ||| x17) fun x18 =>
     lt (μ16 q0 8) fun x19 =>
     jn_X1_pairCost_112 q0 a1 a3 x15 x18 x5 x7 x19 μ16)
    else
     (jn_X1_pairCost_112 q0 a1 a3 x2 x4 x5 x7 (0 : Int32) μ6)))
def jn_X0_take_69 (ih : Int32 → Mem → Option (Mem)) (r0v : Nat) (r1v : Nat) (x2v : Int32) (x3v : Int32) (x4v : Int32) (s0v : Int32) (μ : Mem) : Option (Mem) :=
  ck (inb (((x4v * (64 : Int32)) + (x2v * (8 : Int32))) + x3v) 320) <|
  lt (up μ (r0v + 1) (((x4v * (64 : Int32)) + (x2v * (8 : Int32))) + x3v).toNatClampNeg s0v) fun μ5 =>
  lt (x4v + (1 : Int32)) fun x6 =>
  ih x6 μ5
def lp_X0_take_39 (r0v : Nat) (r1v : Nat) (x2v : Int32) (x3v : Int32) : Nat → Int32 → Mem → Option (Mem)
  | 0, _, _ => none
  | n + 1, x4v, μ =>
    if (5 : Int32) ≤ x4v then
     (some μ)
    else
     (b2 (f_X1_hasPair r1v x4v x2v x3v μ) fun x4 μ3 =>
     if x4 = 0 then
      (jn_X0_take_69 (lp_X0_take_39 r0v r1v x2v x3v n) r0v r1v x2v x3v x4v (1000000 : Int32) μ3)
     else
      (b2 (f_X1_pairCost r1v x4v x2v x3v μ3) fun x8 μ7 =>
      jn_X0_take_69 (lp_X0_take_39 r0v r1v x2v x3v n) r0v r1v x2v x3v x4v x8 μ7))
def lp_X0_take_28 (r0v : Nat) (r1v : Nat) (x2v : Int32) : Nat → Int32 → Mem → Option (Mem)
  | 0, _, _ => none
  | n + 1, x3v, μ =>
    if μ r0v 9 < x3v then
     (some μ)
    else
     (b1 (lp_X0_take_39 r0v r1v x2v x3v FU (0 : Int32) μ) fun μ9 =>
     lt (x3v + (1 : Int32)) fun x10 =>
     lp_X0_take_28 r0v r1v x2v n x10 μ9)
def lp_X0_take_18 (r0v : Nat) (r1v : Nat) : Nat → Int32 → Mem → Option (Mem)
  | 0, _, _ => none
  | n + 1, x2v, μ =>
    if μ r0v 8 < x2v then
     (some μ)
    else
     (b1 (lp_X0_take_28 r0v r1v x2v FU (0 : Int32) μ) fun μ11 =>
     lt (x2v + (1 : Int32)) fun x12 =>
     lp_X0_take_18 r0v r1v n x12 μ11)
def f_X0_take (q0 : Nat) (q1 : Nat) (μ : Mem) : Option (Mem) :=
  lt (up μ q0 8 (μ q1 5)) fun μ1 =>
  lt (up μ1 q0 9 (μ1 q1 6)) fun μ2 =>
  b1 (lp_X0_take_18 q0 q1 FU (0 : Int32) μ2) fun μ13 =>
  some μ13
def f_X0_end (q0 : Nat) (μ : Mem) : Option (Int32 × Mem) :=
  some (((μ q0 8 * (8 : Int32)) + μ q0 9), μ)
def jn_X0_fillLeast_59 (ih : Int32 → Int32 → Mem → Option (Int32 × Mem)) (r0v : Nat) (x1v : Int32) (x2v : Int32) (x3v : Int32) (x4v : Int32) (μ : Mem) : Option (Int32 × Mem) :=
  if x2v ≤ x4v then
   (lt (x3v + (1 : Int32)) fun x4 =>
   ih x2v x4 μ)
  else
   (ck (inb x1v 64) <|
   lt (up μ (r0v + 5) x1v.toNatClampNeg x3v) fun μ5 =>
   lt (x3v + (1 : Int32)) fun x6 =>
   ih x4v x6 μ5)
def lp_X0_fillLeast_17 (r0v : Nat) (x1v : Int32) : Nat → Int32 → Int32 → Mem → Option (Int32 × Mem)
  | 0, _, _, _ => none
  | n + 1, x2v, x3v, μ =>
    if (5 : Int32) ≤ x3v then
     (some (x2v, μ))
    else
     (ck (inb ((x3v * (64 : Int32)) + x1v) 320) <|
     lt (μ (r0v + 1) ((x3v * (64 : Int32)) + x1v).toNatClampNeg) fun x3 =>
     if (1000000 : Int32) ≤ x3 then
      (jn_X0_fillLeast_59 (lp_X0_fillLeast_17 r0v x1v n) r0v x1v x2v x3v x3 μ)
     else
      (ck (inb x3v 5) <|
      ck (inb (x1v + stv 2 x3v.toNatClampNeg) 64) <|
      lt (x3 + μ (r0v + 2) (x1v + stv 2 x3v.toNatClampNeg).toNatClampNeg) fun x7 =>
      jn_X0_fillLeast_59 (lp_X0_fillLeast_17 r0v x1v n) r0v x1v x2v x3v x7 μ))
def jn_X0_fillLeast_14 (r0v : Nat) (x1v : Int32) (s0v : Int32) (μ : Mem) : Option (Mem) :=
  b2 (lp_X0_fillLeast_17 r0v x1v FU s0v (0 : Int32) μ) fun x8 μ9 =>
  ck (inb x1v 64) <|
  lt (up μ9 (r0v + 2) x1v.toNatClampNeg x8) fun μ10 =>
  some μ10
def f_X0_fillLeast (q0 : Nat) (a1 : Int32) (μ : Mem) : Option (Mem) :=
  b2 (f_X0_end q0 μ) fun x2 μ1 =>
  if a1 = x2 then
   (jn_X0_fillLeast_14 q0 a1 (0 : Int32) μ1)
  else
   (jn_X0_fillLeast_14 q0 a1 (1000000 : Int32) μ1)
def f_X0_orNone (a0 : Int32) (μ : Mem) : Option (Int32 × Mem) :=
  if (1000000 : Int32) ≤ a0 then
   (some ((-9 : Int32), μ))
  else
   (some (a0, μ))
def lp_X0_leastBy_14 (r0v : Nat) (x1v : Int32) (x2v : Int32) : Nat → Int32 → Mem → Option (Mem)
  | 0, _, _ => none
  | n + 1, x3v, μ =>
    if x3v < 0 then
     (some μ)
    else
     (lt ((x2v * (8 : Int32)) + x3v) fun x3 =>
     ck (inb x3 64) <|
     lt (up μ (r0v + 2) x3.toNatClampNeg (1000000 : Int32)) fun μ4 =>
     if x1v < (mabs (x2v - x3v)) then
      (lt (x3v + (-1 : Int32)) fun x5 =>
      lp_X0_leastBy_14 r0v x1v x2v n x5 μ4)
     else
      (b1 (f_X0_fillLeast r0v x3 μ4) fun μ6 =>
      lt (x3v + (-1 : Int32)) fun x7 =>
      lp_X0_leastBy_14 r0v x1v x2v n x7 μ6))
def lp_X0_leastBy_5 (r0v : Nat) (x1v : Int32) : Nat → Int32 → Mem → Option (Mem)
  | 0, _, _ => none
  | n + 1, x2v, μ =>
    if x2v < 0 then
     (some μ)
    else
     (lt (μ r0v 9) fun x2 =>
     b1 (lp_X0_leastBy_14 r0v x1v x2v FU x2 μ) fun μ8 =>
     lt (x2v + (-1 : Int32)) fun x9 =>
     lp_X0_leastBy_5 r0v x1v n x9 μ8)
def f_X0_leastBy (q0 : Nat) (a1 : Int32) (μ : Mem) : Option (Int32 × Mem) :=
  lt (μ q0 8) fun x1 =>
  b1 (lp_X0_leastBy_5 q0 a1 FU x1 μ) fun μ10 =>
  ck (inb (0 : Int32) 64) <|
  b2 (f_X0_orNone (μ10 (q0 + 2) (0 : Int32).toNatClampNeg) μ10) fun x12 μ11 =>
  some (x12, μ11)
def jn_X0_addOthers_62 (r0v : Nat) (x1v : Int32) (s0v : Int32) (μ : Mem) : Option (Mem) :=
  ck (inb x1v 64) <|
  ck (inb x1v 64) <|
  lt (up μ (r0v + 3) x1v.toNatClampNeg (mmin (μ (r0v + 3) x1v.toNatClampNeg) s0v)) fun μ2 =>
  some μ2
def jn_X0_addOthers_38 (r0v : Nat) (x1v : Int32) (x2v : Int32) (x3v : Int32) (x4v : Int32) (x5v : Int32) (μ : Mem) : Option (Mem) :=
  ck (inb x1v 64) <|
  if x2v = μ (r0v + 5) x1v.toNatClampNeg then
   (ck (inb x4v 64) <|
   jn_X0_addOthers_62 r0v x1v (x3v + μ (r0v + 3) x4v.toNatClampNeg) μ)
  else
   (jn_X0_addOthers_62 r0v x1v x5v μ)
def f_X0_addOthers (q0 : Nat) (a1 : Int32) (a2 : Int32) (a3 : Int32) (a4 : Int32) (μ : Mem) : Option (Mem) :=
  ck (inb a4 64) <|
  lt (a3 + μ (q0 + 2) a4.toNatClampNeg) fun x1 =>
  ck (inb a1 64) <|
  if x1 = μ (q0 + 2) a1.toNatClampNeg then
   (ck (inb a1 64) <|
   ck (inb a4 64) <|
   ck (inb a1 64) <|
   lt (up μ (q0 + 4) a1.toNatClampNeg (μ (q0 + 4) a1.toNatClampNeg + μ (q0 + 4) a4.toNatClampNeg)) fun μ3 =>
   jn_X0_addOthers_38 q0 a1 a2 a3 a4 x1 μ3)
  else
   (jn_X0_addOthers_38 q0 a1 a2 a3 a4 x1 μ)
def lp_X0_fillOthersAt_44 (r0v : Nat) (x1v : Int32) : Nat → Int32 → Mem → Option (Mem)
  | 0, _, _ => none
  | n + 1, x2v, μ =>
    if (5 : Int32) ≤ x2v then
     (some μ)
    else
     (ck (inb ((x2v * (64 : Int32)) + x1v) 320) <|
     lt (μ (r0v + 1) ((x2v * (64 : Int32)) + x1v).toNatClampNeg) fun x5 =>
     if (1000000 : Int32) ≤ x5 then
      (lt (x2v + (1 : Int32)) fun x6 =>
      lp_X0_fillOthersAt_44 r0v x1v n x6 μ)
     else
      (ck (inb x2v 5) <|
      b1 (f_X0_addOthers r0v x1v x2v x5 (x1v + stv 2 x2v.toNatClampNeg) μ) fun μ7 =>
      lt (x2v + (1 : Int32)) fun x8 =>
      lp_X0_fillOthersAt_44 r0v x1v n x8 μ7))
def jn_X0_fillOthersAt_42 (r0v : Nat) (x1v : Int32) (μ : Mem) : Option (Mem) :=
  b1 (lp_X0_fillOthersAt_44 r0v x1v FU (0 : Int32) μ) fun μ9 =>
  some μ9
def f_X0_fillOthersAt (q0 : Nat) (a1 : Int32) (μ : Mem) : Option (Mem) :=
  ck (inb a1 64) <|
  lt (up μ (q0 + 3) a1.toNatClampNeg (1000000 : Int32)) fun μ1 =>
  ck (inb a1 64) <|
  lt (up μ1 (q0 + 4) a1.toNatClampNeg (0 : Int32)) fun μ2 =>
  ck (inb a1 64) <|
  if μ2 (q0 + 2) a1.toNatClampNeg < (1000000 : Int32) then
   (b2 (f_X0_end q0 μ2) fun x4 μ3 =>
   if a1 = x4 then
    (ck (inb a1 64) <|
    lt (up μ3 (q0 + 4) a1.toNatClampNeg (1 : Int32)) fun μ10 =>
    jn_X0_fillOthersAt_42 q0 a1 μ10)
   else
    (jn_X0_fillOthersAt_42 q0 a1 μ3))
  else
   (some μ2)
def lp_X0_fillOthers_14 (r0v : Nat) (x1v : Int32) : Nat → Int32 → Mem → Option (Mem)
  | 0, _, _ => none
  | n + 1, x2v, μ =>
    if x2v < 0 then
     (some μ)
    else
     (b1 (f_X0_fillOthersAt r0v ((x1v * (8 : Int32)) + x2v) μ) fun μ3 =>
     lt (x2v + (-1 : Int32)) fun x4 =>
     lp_X0_fillOthers_14 r0v x1v n x4 μ3)
def lp_X0_fillOthers_5 (r0v : Nat) : Nat → Int32 → Mem → Option (Mem)
  | 0, _, _ => none
  | n + 1, x1v, μ =>
    if x1v < 0 then
     (some μ)
    else
     (lt (μ r0v 9) fun x2 =>
     b1 (lp_X0_fillOthers_14 r0v x1v FU x2 μ) fun μ5 =>
     lt (x1v + (-1 : Int32)) fun x6 =>
     lp_X0_fillOthers_5 r0v n x6 μ5)
def f_X0_fillOthers (q0 : Nat) (μ : Mem) : Option (Mem) :=
  lt (μ q0 8) fun x1 =>
  b1 (lp_X0_fillOthers_5 q0 FU x1 μ) fun μ7 =>
  some μ7
def lp_X0_walkBest_19 (r0v : Nat) : Nat → Int32 → Mem → Option (Mem)
  | 0, _, _ => none
  | n + 1, x1v, μ =>
    b2 (f_X0_end r0v μ) fun x3 μ2 =>
    if x1v = x3 then
     (some μ2)
    else
     (if (14 : Int32) ≤ μ2 r0v 10 then
      (some μ2)
     else
      (ck (inb x1v 64) <|
      lt (μ2 (r0v + 5) x1v.toNatClampNeg) fun x4 =>
      ck (inb (μ2 r0v 10) 14) <|
      lt (up μ2 (r0v + 6) (μ2 r0v 10).toNatClampNeg x4) fun μ5 =>
      ck (decide (¬ (8 : Int32) = 0)) <|
      ck (inb (μ5 r0v 10) 14) <|
      lt (up μ5 (r0v + 7) (μ5 r0v 10).toNatClampNeg (x1v / (8 : Int32))) fun μ6 =>
      ck (decide (¬ (8 : Int32) = 0)) <|
      ck (inb (μ6 r0v 10) 14) <|
      lt (up μ6 (r0v + 8) (μ6 r0v 10).toNatClampNeg (x1v - x1v / (8 : Int32) * (8 : Int32))) fun μ7 =>
      lt (up μ7 r0v 10 (μ7 r0v 10 + (1 : Int32))) fun μ8 =>
      ck (inb x4 5) <|
      lt (x1v + stv 2 x4.toNatClampNeg) fun x9 =>
      lp_X0_walkBest_19 r0v n x9 μ8))
def f_X0_walkBest (q0 : Nat) (μ : Mem) : Option (Mem) :=
  lt (up μ q0 10 (0 : Int32)) fun μ1 =>
  ck (inb (0 : Int32) 64) <|
  if μ1 (q0 + 2) (0 : Int32).toNatClampNeg < (1000000 : Int32) then
   (b1 (lp_X0_walkBest_19 q0 FU (0 : Int32) μ1) fun μ10 =>
   some μ10)
  else
   (some μ1)
def f_X0_align (q0 : Nat) (q1 : Nat) (μ : Mem) : Option (Mem) :=
  b1 (f_X0_take q0 q1 μ) fun μ1 =>
  b2 (f_X0_leastBy q0 (μ1 q1 9) μ1) fun x3 μ2 =>
  b1 (f_X0_fillOthers q0 μ2) fun μ4 =>
  b1 (f_X0_walkBest q0 μ4) fun μ5 =>
  some μ5
def f_X4_alignmentOfNow (μ : Mem) : Option (Mem) :=
  if μ 0 9 = 0 then
   (b1 (f_X0_align 14 2 μ) fun μ1 =>
   lt (up μ1 0 9 (1 : Int32)) fun μ2 =>
   some μ2)
  else
   (some μ)
def f_X0_isIn (a0 : Int32) (a1 : Int32) (a2 : Int32) (μ : Mem) : Option (Int32 × Mem) :=
  if a0 < a1 then
   (some ((0 : Int32), μ))
  else
   (if (a1 + a2) ≤ a0 then
    (some ((0 : Int32), μ))
   else
    (some ((1 : Int32), μ)))
def f_X0_setOf (a0 : Int32) (a1 : Int32) (μ : Mem) : Option (Int32 × Mem) :=
  some (((((1 : Int32) <<< (a1 &&& 31)) - (1 : Int32)) <<< (a0 &&& 31)), μ)
def lp_X0_rightsWith_4 (r0v : Nat) (x1v : Int32) : Nat → Int32 → Int32 → Mem → Option (Int32 × Mem)
  | 0, _, _, _ => none
  | n + 1, x2v, x3v, μ =>
    if μ r0v 10 ≤ x3v then
     (some (x2v, μ))
    else
     (ck (inb x3v 14) <|
     ck (inb x3v 14) <|
     ck (inb (μ (r0v + 6) x3v.toNatClampNeg) 5) <|
     b2 (f_X0_isIn x1v (μ (r0v + 7) x3v.toNatClampNeg) (stv 0 (μ (r0v + 6) x3v.toNatClampNeg).toNatClampNeg) μ) fun x2 μ1 =>
     if x2 = 0 then
      (lt (x3v + (1 : Int32)) fun x3 =>
      lp_X0_rightsWith_4 r0v x1v n x2v x3 μ1)
     else
      (ck (inb x3v 14) <|
      ck (inb x3v 14) <|
      ck (inb (μ1 (r0v + 6) x3v.toNatClampNeg) 5) <|
      b2 (f_X0_setOf (μ1 (r0v + 8) x3v.toNatClampNeg) (stv 1 (μ1 (r0v + 6) x3v.toNatClampNeg).toNatClampNeg) μ1) fun x5 μ4 =>
      lt (x2v ||| x5) fun x6 =>
      lt (x3v + (1 : Int32)) fun x7 =>
      lp_X0_rightsWith_4 r0v x1v n x6 x7 μ4))
def f_X0_rightsWith (q0 : Nat) (a1 : Int32) (μ : Mem) : Option (Int32 × Mem) :=
  b2 (lp_X0_rightsWith_4 q0 a1 FU (0 : Int32) (0 : Int32) μ) fun x8 μ9 =>
  some (x8, μ9)
def f_X4_ofLeft (a1 : Int32) (a2 : Int32) (μ : Mem) : Option (Int32 × Mem) :=
  b2 (f_X1_hasLeft 2 a1 μ) fun x2 μ1 =>
  if x2 = 0 then
   (some ((-1 : Int32), μ1))
  else
   (if a2 = (0 : Int32) then
    (ck (inb a1 7) <|
    some (μ1 3 a1.toNatClampNeg, μ1))
   else
    (if a2 = (1 : Int32) then
     (ck (inb a1 7) <|
     some (μ1 4 a1.toNatClampNeg, μ1))
    else
     (if a2 = (2 : Int32) then
      (b2 (f_X1_leftLength 2 a1 μ1) fun x4 μ3 =>
      some (x4, μ3))
     else
      (if a2 = (3 : Int32) then
       (ck (inb a1 7) <|
       some (μ1 5 a1.toNatClampNeg, μ1))
      else
       (if a2 = (4 : Int32) then
        (b1 (f_X4_alignmentOfNow μ1) fun μ5 =>
        b2 (f_X0_rightsWith 14 a1 μ5) fun x7 μ6 =>
        some (x7, μ6))
       else
        (some ((-2 : Int32), μ1)))))))
def lp_X0_leftsWith_4 (r0v : Nat) (x1v : Int32) : Nat → Int32 → Int32 → Mem → Option (Int32 × Mem)
  | 0, _, _, _ => none
  | n + 1, x2v, x3v, μ =>
    if μ r0v 10 ≤ x3v then
     (some (x2v, μ))
    else
     (ck (inb x3v 14) <|
     ck (inb x3v 14) <|
     ck (inb (μ (r0v + 6) x3v.toNatClampNeg) 5) <|
     b2 (f_X0_isIn x1v (μ (r0v + 8) x3v.toNatClampNeg) (stv 1 (μ (r0v + 6) x3v.toNatClampNeg).toNatClampNeg) μ) fun x2 μ1 =>
     if x2 = 0 then
      (lt (x3v + (1 : Int32)) fun x3 =>
      lp_X0_leftsWith_4 r0v x1v n x2v x3 μ1)
     else
      (ck (inb x3v 14) <|
      ck (inb x3v 14) <|
      ck (inb (μ1 (r0v + 6) x3v.toNatClampNeg) 5) <|
      b2 (f_X0_setOf (μ1 (r0v + 7) x3v.toNatClampNeg) (stv 0 (μ1 (r0v + 6) x3v.toNatClampNeg).toNatClampNeg) μ1) fun x5 μ4 =>
      lt (x2v ||| x5) fun x6 =>
      lt (x3v + (1 : Int32)) fun x7 =>
      lp_X0_leftsWith_4 r0v x1v n x6 x7 μ4))
def f_X0_leftsWith (q0 : Nat) (a1 : Int32) (μ : Mem) : Option (Int32 × Mem) :=
  b2 (lp_X0_leftsWith_4 q0 a1 FU (0 : Int32) (0 : Int32) μ) fun x8 μ9 =>
  some (x8, μ9)
def f_X4_ofRight (a1 : Int32) (a2 : Int32) (μ : Mem) : Option (Int32 × Mem) :=
  b2 (f_X1_hasRight 2 a1 μ) fun x2 μ1 =>
  if x2 = 0 then
   (some ((-1 : Int32), μ1))
  else
   (if a2 = (0 : Int32) then
    (ck (inb a1 7) <|
    some (μ1 6 a1.toNatClampNeg, μ1))
   else
    (if a2 = (1 : Int32) then
     (ck (inb a1 7) <|
     some (μ1 7 a1.toNatClampNeg, μ1))
    else
     (if a2 = (2 : Int32) then
      (b1 (f_X4_alignmentOfNow μ1) fun μ3 =>
      b2 (f_X0_leftsWith 14 a1 μ3) fun x5 μ4 =>
      some (x5, μ4))
     else
      (some ((-2 : Int32), μ1)))))
def f_X4_isLetters (a0 : Int32) (μ : Mem) : Option (Int32 × Mem) :=
  if a0 < (1 : Int32) then
   (some ((0 : Int32), μ))
  else
   (if (9 : Int32) < a0 then
    (some ((0 : Int32), μ))
   else
    (some ((1 : Int32), μ)))
def jn_X4_letters_43 (x1v : Int32) (x2v : Int32) (x3v : Int32) (μ : Mem) : Option (Int32 × Mem) :=
  b2 (f_X4_isLetters x3v μ) fun x4 μ3 =>
  if x4 = 0 then
   (some ((-2 : Int32), μ3))
  else
   (if x1v = 0 then
    (ck (inb x2v 7) <|
    lt (μ3 4 x2v.toNatClampNeg) fun x8 =>
    ck (inb x2v 7) <|
    lt (up μ3 4 x2v.toNatClampNeg x3v) fun μ9 =>
    lt (up μ9 0 9 (0 : Int32)) fun μ10 =>
    some (x8, μ10))
   else
    (ck (inb x2v 7) <|
    lt (μ3 6 x2v.toNatClampNeg) fun x5 =>
    ck (inb x2v 7) <|
    lt (up μ3 6 x2v.toNatClampNeg x3v) fun μ6 =>
    lt (up μ6 0 9 (0 : Int32)) fun μ7 =>
    some (x5, μ7)))
def jn_X4_letters_12 (x1v : Int32) (x2v : Int32) (x3v : Int32) (μ : Mem) : Option (Int32 × Mem) :=
  if x1v = 0 then
   (b2 (f_X1_hasLeft 2 x2v μ) fun x12 μ11 =>
   if x12 = 0 then
    (some ((-1 : Int32), μ11))
   else
    (jn_X4_letters_43 x1v x2v x3v μ11))
  else
   (b2 (f_X1_hasRight 2 x2v μ) fun x2 μ1 =>
   if x2 = 0 then
    (some ((-1 : Int32), μ1))
   else
    (jn_X4_letters_43 x1v x2v x3v μ1))
def f_X4_letters (a1 : Int32) (a2 : Int32) (a3 : Int32) (μ : Mem) : Option (Int32 × Mem) :=
  if a1 = 0 then
   (jn_X4_letters_12 a1 a2 a3 μ)
  else
   (if a1 = (1 : Int32) then
    (jn_X4_letters_12 a1 a2 a3 μ)
   else
    (some ((-2 : Int32), μ)))
def f_X1_areThere (q0 : Nat) (μ : Mem) : Option (Int32 × Mem) :=
  if μ q0 5 ≤ 0 then
   (some ((0 : Int32), μ))
  else
   (some ((1 : Int32), μ))
def f_X4_isPrice (a0 : Int32) (a1 : Int32) (μ : Mem) : Option (Int32 × Mem) :=
  if a1 < 0 then
   (some ((0 : Int32), μ))
  else
   (if a0 = (2 : Int32) then
    (if (7 : Int32) < a1 then
     (some ((0 : Int32), μ))
    else
     (some ((1 : Int32), μ)))
   else
    (if (9 : Int32) < a1 then
     (some ((0 : Int32), μ))
    else
     (some ((1 : Int32), μ))))
def f_X1_priceOf (q0 : Nat) (a1 : Int32) (μ : Mem) : Option (Int32 × Mem) :=
  if a1 = (0 : Int32) then
   (some (μ q0 7, μ))
  else
   (if a1 = (1 : Int32) then
    (some (μ q0 8, μ))
   else
    (some (μ q0 9, μ)))
def f_X1_setPrice (q0 : Nat) (a1 : Int32) (a2 : Int32) (μ : Mem) : Option (Mem) :=
  if a1 = (0 : Int32) then
   (lt (up μ q0 7 a2) fun μ1 =>
   some μ1)
  else
   (if a1 = (1 : Int32) then
    (lt (up μ q0 8 a2) fun μ2 =>
    some μ2)
   else
    (lt (up μ q0 9 a2) fun μ3 =>
    some μ3))
def f_X4_price (a1 : Int32) (a2 : Int32) (μ : Mem) : Option (Int32 × Mem) :=
  if a1 < 0 then
   (some ((-2 : Int32), μ))
  else
   (if a1 ≤ (2 : Int32) then
    (b2 (f_X1_areThere 2 μ) fun x2 μ1 =>
    if x2 = 0 then
     (some ((-3 : Int32), μ1))
    else
     (b2 (f_X4_isPrice a1 a2 μ1) fun x4 μ3 =>
     if x4 = 0 then
      (some ((-2 : Int32), μ3))
     else
      (b2 (f_X1_priceOf 2 a1 μ3) fun x6 μ5 =>
      b1 (f_X1_setPrice 2 a1 a2 μ5) fun μ7 =>
      lt (up μ7 0 9 (0 : Int32)) fun μ8 =>
      some (x6, μ8))))
   else
    (some ((-2 : Int32), μ)))
def jn_X1_takeMoved_75 (ih : Int32 → Mem → Option (Mem)) (r0v : Nat) (r1v : Nat) (x2v : Int32) (x3v : Int32) (x4v : Int32) (x5v : Int32) (x6v : Int32) (μ : Mem) : Option (Mem) :=
  ck (inb x6v 7) <|
  ck (inb x5v 7) <|
  lt (up μ (r0v + 4) x5v.toNatClampNeg (μ (r1v + 4) x6v.toNatClampNeg)) fun μ1 =>
  ck (inb x6v 7) <|
  ck (inb x5v 7) <|
  lt (up μ1 (r0v + 5) x5v.toNatClampNeg (μ1 (r1v + 5) x6v.toNatClampNeg)) fun μ2 =>
  lt (x5v + (1 : Int32)) fun x3 =>
  ih x3 μ2
def jn_X1_takeMoved_73 (ih : Int32 → Mem → Option (Mem)) (r0v : Nat) (r1v : Nat) (x2v : Int32) (x3v : Int32) (x4v : Int32) (x5v : Int32) (s0v : Int32) (μ : Mem) : Option (Mem) :=
  jn_X1_takeMoved_75 ih r0v r1v x2v x3v x4v x5v s0v μ
def jn_X1_takeMoved_56 (ih : Int32 → Mem → Option (Mem)) (r0v : Nat) (r1v : Nat) (x2v : Int32) (x3v : Int32) (x4v : Int32) (x5v : Int32) (s0v : Int32) (μ : Mem) : Option (Mem) :=
  if x2v ≤ s0v then
   (jn_X1_takeMoved_73 ih r0v r1v x2v x3v x4v x5v (s0v + x3v) μ)
  else
   (jn_X1_takeMoved_73 ih r0v r1v x2v x3v x4v x5v s0v μ)
def jn_X1_takeMoved_40 (ih : Int32 → Mem → Option (Mem)) (r0v : Nat) (r1v : Nat) (x2v : Int32) (x3v : Int32) (x4v : Int32) (x5v : Int32) (μ : Mem) : Option (Mem) :=
  if x4v ≤ x5v then
   (jn_X1_takeMoved_56 ih r0v r1v x2v x3v x4v x5v (x5v - x3v) μ)
  else
   (jn_X1_takeMoved_56 ih r0v r1v x2v x3v x4v x5v x5v μ)
def lp_X1_takeMoved_3 (r0v : Nat) (r1v : Nat) (x2v : Int32) (x3v : Int32) (x4v : Int32) : Nat → Int32 → Mem → Option (Mem)
  | 0, _, _ => none
  | n + 1, x5v, μ =>
    if μ r0v 6 ≤ x5v then
     (some μ)
    else
     (if x5v < x4v then
      (jn_X1_takeMoved_40 (lp_X1_takeMoved_3 r0v r1v x2v x3v x4v n) r0v r1v x2v x3v x4v x5v μ)
     else
      (if (x4v + x3v) ≤ x5v then
       (jn_X1_takeMoved_40 (lp_X1_takeMoved_3 r0v r1v x2v x3v x4v n) r0v r1v x2v x3v x4v x5v μ)
      else
       (lt ((x2v + x5v) - x4v) fun x4 =>
       jn_X1_takeMoved_75 (lp_X1_takeMoved_3 r0v r1v x2v x3v x4v n) r0v r1v x2v x3v x4v x5v x4 μ)))
def f_X1_takeMoved (q0 : Nat) (q1 : Nat) (a2 : Int32) (a3 : Int32) (a4 : Int32) (μ : Mem) : Option (Mem) :=
  b1 (lp_X1_takeMoved_3 q0 q1 a2 a3 a4 FU (0 : Int32) μ) fun μ5 =>
  some μ5
def f_X4_move (a1 : Int32) (a2 : Int32) (a3 : Int32) (μ : Mem) : Option (Int32 × Mem) :=
  if (1 : Int32) ≤ a2 then
   (b2 (f_X1_hasRight 2 a1 μ) fun x2 μ1 =>
   if x2 = 0 then
    (some ((-1 : Int32), μ1))
   else
    (if a2 ≤ (μ1 2 6 - a1) then
     (if a3 < 0 then
      (some ((-2 : Int32), μ1))
     else
      (if a3 ≤ (μ1 2 6 - a2) then
       (b1 (f_X1_becomeLike 8 2 μ1) fun μ3 =>
       b1 (f_X1_takeMoved 2 8 a1 a2 a3 μ3) fun μ4 =>
       lt (up μ4 0 9 (0 : Int32)) fun μ5 =>
       some (a2, μ5))
      else
       (some ((-2 : Int32), μ1))))
    else
     (some ((-1 : Int32), μ1))))
  else
   (some ((-2 : Int32), μ))
def f_X0_answer (q0 : Nat) (a1 : Int32) (μ : Mem) : Option (Int32 × Mem) :=
  if a1 = (0 : Int32) then
   (ck (inb (0 : Int32) 64) <|
   b2 (f_X0_orNone (μ (q0 + 2) (0 : Int32).toNatClampNeg) μ) fun x2 μ1 =>
   some (x2, μ1))
  else
   (if a1 = (1 : Int32) then
    (if μ q0 10 ≤ 0 then
     (some ((-9 : Int32), μ))
    else
     (some (μ q0 10, μ)))
   else
    (if a1 = (2 : Int32) then
     (ck (inb (0 : Int32) 64) <|
     b2 (f_X0_orNone (μ (q0 + 3) (0 : Int32).toNatClampNeg) μ) fun x4 μ3 =>
     some (x4, μ3))
    else
     (ck (inb (0 : Int32) 64) <|
     some (μ (q0 + 4) (0 : Int32).toNatClampNeg, μ))))
def f_X4_best (a1 : Int32) (μ : Mem) : Option (Int32 × Mem) :=
  if a1 < 0 then
   (some ((-2 : Int32), μ))
  else
   (if a1 ≤ (3 : Int32) then
    (b2 (f_X1_areThere 2 μ) fun x2 μ1 =>
    if x2 = 0 then
     (some ((-3 : Int32), μ1))
    else
     (b1 (f_X4_alignmentOfNow μ1) fun μ3 =>
     b2 (f_X0_answer 14 a1 μ3) fun x5 μ4 =>
     some (x5, μ4)))
   else
    (some ((-2 : Int32), μ)))
def f_X0_costOfPair (q0 : Nat) (a1 : Int32) (μ : Mem) : Option (Int32 × Mem) :=
  ck (inb a1 14) <|
  ck (inb a1 14) <|
  ck (inb a1 14) <|
  ck (inb (((μ (q0 + 6) a1.toNatClampNeg * (64 : Int32)) + (μ (q0 + 7) a1.toNatClampNeg * (8 : Int32))) + μ (q0 + 8) a1.toNatClampNeg) 320) <|
  some (μ (q0 + 1) (((μ (q0 + 6) a1.toNatClampNeg * (64 : Int32)) + (μ (q0 + 7) a1.toNatClampNeg * (8 : Int32))) + μ (q0 + 8) a1.toNatClampNeg).toNatClampNeg, μ)
def f_X4_ofPair (a1 : Int32) (a2 : Int32) (μ : Mem) : Option (Int32 × Mem) :=
  b1 (f_X4_alignmentOfNow μ) fun μ1 =>
  if a1 < 0 then
   (some ((-1 : Int32), μ1))
  else
   (if a1 < μ1 14 10 then
    (if a2 = (0 : Int32) then
     (ck (inb a1 14) <|
     some (μ1 20 a1.toNatClampNeg, μ1))
    else
     (if a2 = (1 : Int32) then
      (ck (inb a1 14) <|
      some (μ1 21 a1.toNatClampNeg, μ1))
     else
      (if a2 = (2 : Int32) then
       (ck (inb a1 14) <|
       some (μ1 22 a1.toNatClampNeg, μ1))
      else
       (if a2 = (3 : Int32) then
        (b2 (f_X0_costOfPair 14 a1 μ1) fun x3 μ2 =>
        some (x3, μ2))
       else
        (some ((-2 : Int32), μ1))))))
   else
    (some ((-1 : Int32), μ1)))
def f_X4_isSort (a0 : Int32) (μ : Mem) : Option (Int32 × Mem) :=
  if a0 < 0 then
   (some ((0 : Int32), μ))
  else
   (if (5 : Int32) ≤ a0 then
    (some ((0 : Int32), μ))
   else
    (some ((1 : Int32), μ)))
def f_X4_cost (a1 : Int32) (a2 : Int32) (a3 : Int32) (μ : Mem) : Option (Int32 × Mem) :=
  b2 (f_X4_isSort a1 μ) fun x2 μ1 =>
  if x2 = 0 then
   (some ((-2 : Int32), μ1))
  else
   (b2 (f_X1_hasPair 2 a1 a2 a3 μ1) fun x4 μ3 =>
   if x4 = 0 then
    (some ((-1 : Int32), μ3))
   else
    (b2 (f_X1_pairCost 2 a1 a2 a3 μ3) fun x6 μ5 =>
    some (x6, μ5)))
def jn_X4_isAskedOfDay_9 (x0v : Int32) (μ : Mem) : Option (Int32 × Mem) :=
  if x0v < (10 : Int32) then
   (some ((0 : Int32), μ))
  else
   (if (17 : Int32) ≤ x0v then
    (some ((0 : Int32), μ))
   else
    (some ((1 : Int32), μ)))
def f_X4_isAskedOfDay (a0 : Int32) (μ : Mem) : Option (Int32 × Mem) :=
  if a0 < 0 then
   (jn_X4_isAskedOfDay_9 a0 μ)
  else
   (if a0 ≤ (4 : Int32) then
    (some ((1 : Int32), μ))
   else
    (jn_X4_isAskedOfDay_9 a0 μ))
def jn_X4_isAct_54 (x0v : Int32) (x2v : Int32) (s0v : Int32) (μ : Mem) : Option (Int32 × Mem) :=
  if x2v = 0 then
   (if s0v = 0 then
    (some ((0 : Int32), μ))
   else
    (b2 (f_X4_isLetters x0v μ) fun x4 μ3 =>
    if x4 = 0 then
     (some ((0 : Int32), μ3))
    else
     (some ((1 : Int32), μ3))))
  else
   (b2 (f_X4_isLetters x0v μ) fun x2 μ1 =>
   if x2 = 0 then
    (some ((0 : Int32), μ1))
   else
    (some ((1 : Int32), μ1)))
def jn_X4_isAct_53 (x0v : Int32) (x2v : Int32) (μ : Mem) : Option (Int32 × Mem) :=
  jn_X4_isAct_54 x0v x2v (0 : Int32) μ
def jn_X4_isAct_36 (x0v : Int32) (x1v : Int32) (s0v : Int32) (μ : Mem) : Option (Int32 × Mem) :=
  if x1v < (10 : Int32) then
   (jn_X4_isAct_53 x0v s0v μ)
  else
   (if (17 : Int32) ≤ x1v then
    (jn_X4_isAct_53 x0v s0v μ)
   else
    (jn_X4_isAct_54 x0v s0v (1 : Int32) μ))
def jn_X4_isAct_35 (x0v : Int32) (x1v : Int32) (μ : Mem) : Option (Int32 × Mem) :=
  jn_X4_isAct_36 x0v x1v (0 : Int32) μ
def jn_X4_isAct_21 (x0v : Int32) (x1v : Int32) (μ : Mem) : Option (Int32 × Mem) :=
  if x1v < 0 then
   (jn_X4_isAct_35 x0v x1v μ)
  else
   (if (7 : Int32) ≤ x1v then
    (jn_X4_isAct_35 x0v x1v μ)
   else
    (jn_X4_isAct_36 x0v x1v (1 : Int32) μ))
def f_X4_isAct (a0 : Int32) (a1 : Int32) (μ : Mem) : Option (Int32 × Mem) :=
  if a1 < (20 : Int32) then
   (jn_X4_isAct_21 a0 a1 μ)
  else
   (if (22 : Int32) < a1 then
    (jn_X4_isAct_21 a0 a1 μ)
   else
    (b2 (f_X4_isPrice (a1 - (20 : Int32)) a0 μ) fun x6 μ5 =>
    ck (bo x6) (some (x6, μ5))))
def lp_X4_areActs_2 (r0v : Nat) (x1v : Int32) (x2v : Int32) : Nat → Int32 → Mem → Option ((Mem) ⊕ (Int32 × Mem))
  | 0, _, _ => none
  | n + 1, x3v, μ =>
    if x2v ≤ x3v then
     (some (.inl μ))
    else
     (ck (inb (x1v + ((2 : Int32) * x3v)) 60) <|
     ck (inb ((x1v + ((2 : Int32) * x3v)) + (1 : Int32)) 60) <|
     b2 (f_X4_isAct (μ (r0v + 1) (x1v + ((2 : Int32) * x3v)).toNatClampNeg) (μ (r0v + 1) ((x1v + ((2 : Int32) * x3v)) + (1 : Int32)).toNatClampNeg) μ) fun x2 μ1 =>
     if x2 = 0 then
      (some (.inr ((0 : Int32), μ1)))
     else
      (lt (x3v + (1 : Int32)) fun x3 =>
      lp_X4_areActs_2 r0v x1v x2v n x3 μ1))
def f_X4_areActs (q0 : Nat) (a1 : Int32) (a2 : Int32) (μ : Mem) : Option (Int32 × Mem) :=
  s1 (lp_X4_areActs_2 q0 a1 a2 FU (0 : Int32) μ) (fun μ4 =>
   some ((1 : Int32), μ4)) (fun o => some o)
def f_X1_takeAct (q0 : Nat) (a1 : Int32) (a2 : Int32) (μ : Mem) : Option (Int32 × Mem) :=
  if a2 < (20 : Int32) then
   (if a2 < (10 : Int32) then
    (b2 (f_X1_hasLeft q0 a2 μ) fun x2 μ1 =>
    if x2 = 0 then
     (some ((0 : Int32), μ1))
    else
     (ck (inb a2 7) <|
     lt (up μ1 (q0 + 2) a2.toNatClampNeg a1) fun μ3 =>
     some ((1 : Int32), μ3)))
   else
    (b2 (f_X1_hasRight q0 (a2 - (10 : Int32)) μ) fun x5 μ4 =>
    if x5 = 0 then
     (some ((0 : Int32), μ4))
    else
     (ck (inb (a2 - (10 : Int32)) 7) <|
     lt (up μ4 (q0 + 4) (a2 - (10 : Int32)).toNatClampNeg a1) fun μ6 =>
     some ((1 : Int32), μ6))))
  else
   (b1 (f_X1_setPrice q0 (a2 - (20 : Int32)) a1 μ) fun μ7 =>
   some ((1 : Int32), μ7))
def lp_X4_supposeDay_14 (r1v : Nat) (x2v : Int32) (x3v : Int32) : Nat → Int32 → Mem → Option ((Mem) ⊕ (Int32 × Mem))
  | 0, _, _ => none
  | n + 1, x4v, μ =>
    if x3v ≤ x4v then
     (some (.inl μ))
    else
     (ck (inb (x2v + ((2 : Int32) * x4v)) 60) <|
     ck (inb ((x2v + ((2 : Int32) * x4v)) + (1 : Int32)) 60) <|
     b2 (f_X1_takeAct 8 (μ (r1v + 1) (x2v + ((2 : Int32) * x4v)).toNatClampNeg) (μ (r1v + 1) ((x2v + ((2 : Int32) * x4v)) + (1 : Int32)).toNatClampNeg) μ) fun x3 μ2 =>
     if x3 = 0 then
      (some (.inr (x4v, μ2)))
     else
      (lt (x4v + (1 : Int32)) fun x4 =>
      lp_X4_supposeDay_14 r1v x2v x3v n x4 μ2))
def f_X4_supposeDay (q1 : Nat) (a2 : Int32) (a3 : Int32) (μ : Mem) : Option (Int32 × Mem) :=
  b1 (f_X1_becomeLike 8 2 μ) fun μ1 =>
  s1 (lp_X4_supposeDay_14 q1 a2 a3 FU (0 : Int32) μ1) (fun μ5 =>
   some ((-9 : Int32), μ5)) (fun o => some o)
def jn_X4_answerOfDay_41 (x2v : Int32) (μ : Mem) : Option (Int32 × Mem) :=
  b1 (f_X0_align 23 8 μ) fun μ1 =>
  if x2v < (10 : Int32) then
   (if x2v = 0 then
    (b2 (f_X0_answer 23 (0 : Int32) μ1) fun x5 μ4 =>
    some (x5, μ4))
   else
    (b2 (f_X0_answer 23 (x2v - (1 : Int32)) μ1) fun x3 μ2 =>
    some (x3, μ2)))
  else
   (b2 (f_X0_rightsWith 23 (x2v - (10 : Int32)) μ1) fun x7 μ6 =>
   some (x7, μ6))
def f_X4_answerOfDay (a1 : Int32) (a2 : Int32) (μ : Mem) : Option (Int32 × Mem) :=
  if a2 = (1 : Int32) then
   (some (a1, μ))
  else
   (if a1 = (-9 : Int32) then
    (if a2 < (10 : Int32) then
     (jn_X4_answerOfDay_41 a2 μ)
    else
     (b2 (f_X1_hasLeft 8 (a2 - (10 : Int32)) μ) fun x9 μ8 =>
     if x9 = 0 then
      (some ((-9 : Int32), μ8))
     else
      (jn_X4_answerOfDay_41 a2 μ8)))
   else
    (some (((-100 : Int32) - a1), μ)))
def jn_X4_day_81 (x3v : Int32) (x4v : Int32) (x5v : Int32) (r6v : Nat) (x7v : Int32) (μ : Mem) : Option (Int32 × Mem) :=
  if x7v = 0 then
   (b2 (f_X1_areThere 2 μ) fun x12 μ11 =>
   if x12 = 0 then
    (some ((-3 : Int32), μ11))
   else
    (b2 (f_X4_areActs r6v x3v x4v μ11) fun x14 μ13 =>
    if x14 = 0 then
     (some ((-2 : Int32), μ13))
    else
     (b2 (f_X4_supposeDay r6v x3v x4v μ13) fun x16 μ15 =>
     b2 (f_X4_answerOfDay x16 x5v μ15) fun x18 μ17 =>
     some (x18, μ17))))
  else
   (b2 (f_X4_failed x7v μ) fun x20 μ19 =>
   some (x20, μ19))
def f_X4_day (a1 : Int32) (a2 : Int32) (a3 : Int32) (a4 : Int32) (a5 : Int32) (μ : Mem) : Option (Int32 × Mem) :=
  lt (up μ 0 11 (0 : Int32)) fun μ1 =>
  b2 (f_X4_isSheet a1 μ1) fun x3 μ2 =>
  if x3 = 0 then
   (some ((-1 : Int32), μ2))
  else
   (b2 (f_X4_isLane a2 μ2) fun x5 μ4 =>
   if x5 = 0 then
    (some ((-2 : Int32), μ4))
   else
    (if a4 < 0 then
     (some ((-2 : Int32), μ4))
    else
     (if (20 : Int32) < a4 then
      (some ((-2 : Int32), μ4))
     else
      (b2 (f_X4_isAskedOfDay a5 μ4) fun x7 μ6 =>
      if x7 = 0 then
       (some ((-2 : Int32), μ6))
      else
       (ck (inb a1 4) <| lt (shc a1) fun q8 =>
       b2 (f_X2_faultAs q8 a2 μ6) fun x10 μ9 =>
       if x10 = 0 then
        (b2 (f_X2_hasCells q8 a3 ((2 : Int32) * a4) μ9) fun x22 μ21 =>
        if x22 = 0 then
         (jn_X4_day_81 a3 a4 a5 q8 (3 : Int32) μ21)
        else
         (jn_X4_day_81 a3 a4 a5 q8 x10 μ21))
       else
        (jn_X4_day_81 a3 a4 a5 q8 x10 μ9))))))
def f_X4_by (a1 : Int32) (μ : Mem) : Option (Int32 × Mem) :=
  b2 (f_X4_isPrice (2 : Int32) a1 μ) fun x2 μ1 =>
  if x2 = 0 then
   (some ((-2 : Int32), μ1))
  else
   (b2 (f_X1_areThere 2 μ1) fun x4 μ3 =>
   if x4 = 0 then
    (some ((-3 : Int32), μ3))
   else
    (b1 (f_X0_take 23 2 μ3) fun μ5 =>
    b2 (f_X0_leastBy 23 a1 μ5) fun x7 μ6 =>
    some (x7, μ6)))
def lp_X4_enough_36 (x1v : Int32) : Nat → Int32 → Mem → Option (Int32 × Mem)
  | 0, _, _ => none
  | n + 1, x2v, μ =>
    if (7 : Int32) ≤ x2v then
     (some (x2v, μ))
    else
     (b2 (f_X0_leastBy 23 x2v μ) fun x7 μ6 =>
     if x7 = x1v then
      (some (x2v, μ6))
     else
      (lt (x2v + (1 : Int32)) fun x8 =>
      lp_X4_enough_36 x1v n x8 μ6))
def f_X4_enough (μ : Mem) : Option (Int32 × Mem) :=
  b2 (f_X1_areThere 2 μ) fun x2 μ1 =>
  if x2 = 0 then
   (some ((-3 : Int32), μ1))
  else
   (b1 (f_X0_take 23 2 μ1) fun μ3 =>
   b2 (f_X0_leastBy 23 (7 : Int32) μ3) fun x5 μ4 =>
   b2 (lp_X4_enough_36 x5 FU (0 : Int32) μ4) fun x9 μ10 =>
   some (x9, μ10))
def jn_X4_reading_41 (x1v : Int32) (x2v : Int32) (μ : Mem) : Option (Int32 × Mem) :=
  if μ 0 8 < (8 : Int32) then
   (ck (inb (μ 0 8) 8) <|
   lt (up μ 33 (μ 0 8).toNatClampNeg x1v) fun μ5 =>
   ck (inb (μ5 0 8) 8) <|
   lt (up μ5 34 (μ5 0 8).toNatClampNeg x2v) fun μ6 =>
   lt (up μ6 0 8 (μ6 0 8 + (1 : Int32))) fun μ7 =>
   some ((μ7 0 8 - (1 : Int32)), μ7))
  else
   (some ((-4 : Int32), μ))
def f_X4_reading (a1 : Int32) (a2 : Int32) (μ : Mem) : Option (Int32 × Mem) :=
  b2 (f_X1_areThere 2 μ) fun x2 μ1 =>
  if x2 = 0 then
   (some ((-3 : Int32), μ1))
  else
   (b2 (f_X4_isPrice (2 : Int32) a1 μ1) fun x4 μ3 =>
   if x4 = 0 then
    (some ((-2 : Int32), μ3))
   else
    (if a2 = (-9 : Int32) then
     (jn_X4_reading_41 a1 a2 μ3)
    else
     (if a2 < 0 then
      (some ((-2 : Int32), μ3))
     else
      (if a2 ≤ (500 : Int32) then
       (jn_X4_reading_41 a1 a2 μ3)
      else
       (some ((-2 : Int32), μ3))))))
def f_X4_back (a1 : Int32) (μ : Mem) : Option (Int32 × Mem) :=
  if a1 < 0 then
   (some ((-2 : Int32), μ))
  else
   (if a1 ≤ μ 0 8 then
    (lt (up μ 0 8 (μ 0 8 - a1)) fun μ1 =>
    some (μ1 0 8, μ1))
   else
    (some ((-2 : Int32), μ)))
def lp_X4_readingsHoldIfSupposed_13 : Nat → Int32 → Mem → Option ((Mem) ⊕ (Int32 × Mem))
  | 0, _, _ => none
  | n + 1, x1v, μ =>
    if μ 0 8 ≤ x1v then
     (some (.inl μ))
    else
     (ck (inb x1v 8) <|
     b2 (f_X0_leastBy 23 (μ 33 x1v.toNatClampNeg) μ) fun x3 μ2 =>
     ck (inb x1v 8) <|
     if x3 = μ2 34 x1v.toNatClampNeg then
      (lt (x1v + (1 : Int32)) fun x4 =>
      lp_X4_readingsHoldIfSupposed_13 n x4 μ2)
     else
      (some (.inr ((0 : Int32), μ2))))
def f_X4_readingsHoldIfSupposed (μ : Mem) : Option (Int32 × Mem) :=
  b1 (f_X0_take 23 8 μ) fun μ1 =>
  s1 (lp_X4_readingsHoldIfSupposed_13 FU (0 : Int32) μ1) (fun μ5 =>
   some ((1 : Int32), μ5)) (fun o => some o)
def lp_X4_kinds_28 (x1v : Int32) : Nat → Int32 → Int32 → Mem → Option (Int32 × Mem)
  | 0, _, _, _ => none
  | n + 1, x2v, x3v, μ =>
    if (3 : Int32) ≤ x3v then
     (some (x2v, μ))
    else
     (ck (inb x1v 7) <|
     lt (up μ 9 x1v.toNatClampNeg x3v) fun μ4 =>
     b2 (f_X4_readingsHoldIfSupposed μ4) fun x6 μ5 =>
     if x6 = 0 then
      (lt (x3v + (1 : Int32)) fun x7 =>
      lp_X4_kinds_28 x1v n x2v x7 μ5)
     else
      (lt (x2v ||| ((1 : Int32) <<< (x3v &&& 31))) fun x8 =>
      lt (x3v + (1 : Int32)) fun x9 =>
      lp_X4_kinds_28 x1v n x8 x9 μ5))
def f_X4_kinds (a1 : Int32) (μ : Mem) : Option (Int32 × Mem) :=
  b2 (f_X1_hasLeft 2 a1 μ) fun x2 μ1 =>
  if x2 = 0 then
   (some ((-1 : Int32), μ1))
  else
   (b1 (f_X1_becomeLike 8 2 μ1) fun μ3 =>
   b2 (lp_X4_kinds_28 a1 FU (0 : Int32) (0 : Int32) μ3) fun x10 μ11 =>
   some (x10, μ11))
def lp_X4_letterings_28 (x1v : Int32) : Nat → Int32 → Int32 → Mem → Option (Int32 × Mem)
  | 0, _, _, _ => none
  | n + 1, x2v, x3v, μ =>
    if (9 : Int32) < x3v then
     (some (x2v, μ))
    else
     (ck (inb x1v 7) <|
     lt (up μ 10 x1v.toNatClampNeg x3v) fun μ4 =>
     b2 (f_X4_readingsHoldIfSupposed μ4) fun x6 μ5 =>
     if x6 = 0 then
      (lt (x3v + (1 : Int32)) fun x7 =>
      lp_X4_letterings_28 x1v n x2v x7 μ5)
     else
      (lt (x2v ||| ((1 : Int32) <<< (x3v &&& 31))) fun x8 =>
      lt (x3v + (1 : Int32)) fun x9 =>
      lp_X4_letterings_28 x1v n x8 x9 μ5))
def f_X4_letterings (a1 : Int32) (μ : Mem) : Option (Int32 × Mem) :=
  b2 (f_X1_hasLeft 2 a1 μ) fun x2 μ1 =>
  if x2 = 0 then
   (some ((-1 : Int32), μ1))
  else
   (b1 (f_X1_becomeLike 8 2 μ1) fun μ3 =>
   b2 (lp_X4_letterings_28 a1 FU (0 : Int32) (1 : Int32) μ3) fun x10 μ11 =>
   some (x10, μ11))
def lp_X0_howManyOf_4 (r0v : Nat) (x1v : Int32) : Nat → Int32 → Int32 → Mem → Option (Int32 × Mem)
  | 0, _, _, _ => none
  | n + 1, x2v, x3v, μ =>
    if μ r0v 10 ≤ x3v then
     (some (x2v, μ))
    else
     (ck (inb x3v 14) <|
     if μ (r0v + 6) x3v.toNatClampNeg = x1v then
      (lt (x2v + (1 : Int32)) fun x2 =>
      lt (x3v + (1 : Int32)) fun x3 =>
      lp_X0_howManyOf_4 r0v x1v n x2 x3 μ)
     else
      (lt (x3v + (1 : Int32)) fun x1 =>
      lp_X0_howManyOf_4 r0v x1v n x2v x1 μ))
def f_X0_howManyOf (q0 : Nat) (a1 : Int32) (μ : Mem) : Option (Int32 × Mem) :=
  b2 (lp_X0_howManyOf_4 q0 a1 FU (0 : Int32) (0 : Int32) μ) fun x4 μ5 =>
  some (x4, μ5)
def lp_X4_commonDivisor_2 (x0v : Int32) (x1v : Int32) : Nat → Int32 → Mem → Option (Int32 × Mem)
  | 0, _, _ => none
  | n + 1, x2v, μ =>
    if x2v ≤ (1 : Int32) then
     (some (x2v, μ))
    else
     (ck (decide (¬ x2v = 0)) <|
     if (x0v - x0v / x2v * x2v) = 0 then
      (ck (decide (¬ x2v = 0)) <|
      if (x1v - x1v / x2v * x2v) = 0 then
       (some (x2v, μ))
      else
       (lt (x2v + (-1 : Int32)) fun x2 =>
       lp_X4_commonDivisor_2 x0v x1v n x2 μ))
     else
      (lt (x2v + (-1 : Int32)) fun x1 =>
      lp_X4_commonDivisor_2 x0v x1v n x1 μ))
def f_X4_commonDivisor (a0 : Int32) (a1 : Int32) (μ : Mem) : Option (Int32 × Mem) :=
  b2 (lp_X4_commonDivisor_2 a0 a1 FU a1 μ) fun x3 μ4 =>
  some (x3, μ4)
def f_X4_odds (a1 : Int32) (a2 : Int32) (μ : Mem) : Option (Int64 × Mem) :=
  b2 (f_X4_isSort a1 μ) fun x2 μ1 =>
  if x2 = 0 then
   (some ((-9223372036854775808 : Int64), μ1))
  else
   (if a2 < 0 then
    (some ((-9223372036854775808 : Int64), μ1))
   else
    (if a2 ≤ (1 : Int32) then
     (b1 (f_X4_alignmentOfNow μ1) fun μ3 =>
     lt (μ3 14 10) fun x4 =>
     if (1 : Int32) ≤ x4 then
      (b2 (f_X0_howManyOf 14 a1 μ3) fun x6 μ5 =>
      b2 (f_X4_commonDivisor x6 x4 μ5) fun x8 μ7 =>
      if a2 = 0 then
       (ck (decide (¬ x8 = 0)) <|
       some (((x6 / x8)).toInt64, μ7))
      else
       (ck (decide (¬ x8 = 0)) <|
       some (((x4 / x8)).toInt64, μ7)))
     else
      (some ((-9223372036854775808 : Int64), μ3)))
    else
     (some ((-9223372036854775808 : Int64), μ1))))
def lp_J7_fill_53178_5 (r0v : Nat) (x1v : Int32) (x3v : Int32) : Nat → Int32 → Mem → Option (Mem)
  | 0, _, _ => none
  | n + 1, x2v, μ =>
    if x3v ≤ x2v then
     (some μ)
    else
     (ck (inb x2v 60) <|
     lt (up μ r0v x2v.toNatClampNeg x1v) fun μ1 =>
     lt (x2v + (1 : Int32)) fun x2 =>
     lp_J7_fill_53178_5 r0v x1v x3v n x2 μ1)
def f_J7_fill_53178 (q0 : Nat) (a1 : Int32) (μ : Mem) : Option (Mem) :=
  b1 (lp_J7_fill_53178_5 q0 a1 (60 : Int32) FU (0 : Int32) μ) fun μ3 =>
  some μ3
def f_X2_begin (q0 : Nat) (a1 : Int32) (a2 : Int32) (μ : Mem) : Option (Mem) :=
  lt (up μ q0 1 (1 : Int32)) fun μ1 =>
  lt (up μ1 q0 2 a1) fun μ2 =>
  lt (up μ2 q0 3 a2) fun μ3 =>
  b1 (f_J7_fill_53178 (q0 + 1) (0 : Int32) μ3) fun μ4 =>
  some μ4
def f_X4_sheet (a1 : Int32) (a2 : Int32) (a3 : Int32) (μ : Mem) : Option (Int32 × Mem) :=
  lt (up μ 0 11 (0 : Int32)) fun μ1 =>
  b2 (f_X4_isSheet a1 μ1) fun x3 μ2 =>
  if x3 = 0 then
   (some ((-1 : Int32), μ2))
  else
   (b2 (f_X4_isLane a2 μ2) fun x5 μ4 =>
   if x5 = 0 then
    (some ((-2 : Int32), μ4))
   else
    (if a3 ≤ (60 : Int32) then
     (if 0 ≤ a3 then
      (ck (inb a1 4) <| lt (shc a1) fun q6 =>
      b1 (f_X2_begin q6 a2 a3 μ4) fun μ7 =>
      some ((1 : Int32), μ7))
     else
      (b2 (f_X4_failed (4 : Int32) μ4) fun x9 μ8 =>
      some (x9, μ8)))
    else
     (some ((-2 : Int32), μ4))))
def f_X4_lose (a1 : Int32) (μ : Mem) : Option (Int32 × Mem) :=
  b2 (f_X4_isSheet a1 μ) fun x2 μ1 =>
  if x2 = 0 then
   (some ((-1 : Int32), μ1))
  else
   (ck (inb a1 4) <| lt (shc a1) fun q3 =>
   lt (μ1 q3 1) fun x4 =>
   ck (inb a1 4) <| lt (shc a1) fun q5 =>
   lt (up μ1 q5 1 (0 : Int32)) fun μ6 =>
   if x4 = 0 then
    (some ((0 : Int32), μ6))
   else
    (some ((1 : Int32), μ6)))
def f_X2_cut (q0 : Nat) (a1 : Int32) (μ : Mem) : Option (Int32 × Mem) :=
  if μ q0 2 = 0 then
   (some ((a1).toInt8.toInt32, μ))
  else
   (if μ q0 2 = (1 : Int32) then
    (some ((a1).toInt16.toInt32, μ))
   else
    (some (a1, μ)))
def f_X4_put (a1 : Int32) (a2 : Int32) (a3 : Int32) (μ : Mem) : Option (Int32 × Mem) :=
  lt (up μ 0 11 (0 : Int32)) fun μ1 =>
  b2 (f_X4_isSheet a1 μ1) fun x3 μ2 =>
  if x3 = 0 then
   (some ((-1 : Int32), μ2))
  else
   (ck (inb a1 4) <| lt (shc a1) fun q4 =>
   if μ2 q4 1 = 0 then
    (b2 (f_X4_failed (1 : Int32) μ2) fun x13 μ12 =>
    some (x13, μ12))
   else
    (b2 (f_X2_hasCells q4 a2 (1 : Int32) μ2) fun x6 μ5 =>
    if x6 = 0 then
     (b2 (f_X4_failed (3 : Int32) μ5) fun x11 μ10 =>
     some (x11, μ10))
    else
     (b2 (f_X2_cut q4 a3 μ5) fun x8 μ7 =>
     ck (inb a2 60) <|
     lt (up μ7 (q4 + 1) a2.toNatClampNeg x8) fun μ9 =>
     some ((1 : Int32), μ9))))
def jn_X4_cell_63 (x2v : Int32) (r4v : Nat) (μ : Mem) : Option (Int64 × Mem) :=
  if μ 0 11 = 0 then
   (ck (inb x2v 60) <|
   some ((μ (r4v + 1) x2v.toNatClampNeg).toInt64, μ))
  else
   (some ((-9223372036854775808 : Int64), μ))
def f_X4_cell (a1 : Int32) (a2 : Int32) (a3 : Int32) (μ : Mem) : Option (Int64 × Mem) :=
  lt (up μ 0 11 (0 : Int32)) fun μ1 =>
  b2 (f_X4_isSheet a1 μ1) fun x3 μ2 =>
  if x3 = 0 then
   (some ((-9223372036854775808 : Int64), μ2))
  else
   (b2 (f_X4_isLane a3 μ2) fun x5 μ4 =>
   if x5 = 0 then
    (some ((-9223372036854775808 : Int64), μ4))
   else
    (ck (inb a1 4) <| lt (shc a1) fun q6 =>
    b2 (f_X2_faultAs q6 a3 μ4) fun x8 μ7 =>
    lt (up μ7 0 11 x8) fun μ9 =>
    if μ9 0 11 = 0 then
     (b2 (f_X2_hasCells q6 a2 (1 : Int32) μ9) fun x11 μ10 =>
     if x11 = 0 then
      (lt (up μ10 0 11 (3 : Int32)) fun μ12 =>
      jn_X4_cell_63 a2 q6 μ12)
     else
      (jn_X4_cell_63 a2 q6 μ10))
    else
     (jn_X4_cell_63 a2 q6 μ9)))
def f_X4_copy (a1 : Int32) (a2 : Int32) (a3 : Int32) (a4 : Int32) (a5 : Int32) (μ : Mem) : Option (Int32 × Mem) :=
  lt (up μ 0 11 (0 : Int32)) fun μ1 =>
  b2 (f_X4_isSheet a1 μ1) fun x3 μ2 =>
  if x3 = 0 then
   (some ((-1 : Int32), μ2))
  else
   (b2 (f_X4_isSheet a3 μ2) fun x5 μ4 =>
   if x5 = 0 then
    (some ((-1 : Int32), μ4))
   else
    (ck (inb a1 4) <| lt (shc a1) fun q6 =>
    ck (inb a3 4) <| lt (shc a3) fun q7 =>
    if μ4 q6 1 = 0 then
     (b2 (f_X4_failed (1 : Int32) μ4) fun x9 μ8 =>
     some (x9, μ8))
    else
     (if μ4 q7 1 = 0 then
      (b2 (f_X4_failed (1 : Int32) μ4) fun x22 μ21 =>
      some (x22, μ21))
     else
      (if μ4 q6 2 = μ4 q7 2 then
       (b2 (f_X2_hasCells q6 a2 a5 μ4) fun x11 μ10 =>
       if x11 = 0 then
        (b2 (f_X4_failed (3 : Int32) μ10) fun x13 μ12 =>
        some (x13, μ12))
       else
        (b2 (f_X2_hasCells q7 a4 a5 μ10) fun x15 μ14 =>
        if x15 = 0 then
         (b2 (f_X4_failed (3 : Int32) μ14) fun x18 μ17 =>
         some (x18, μ17))
        else
         (ck (cpk a2 a4 a5 60 60) <|
         lt (cpm μ14 (q6 + 1) a2.toNatClampNeg (q7 + 1) a4.toNatClampNeg a5.toNatClampNeg) fun μ16 =>
         some (a5, μ16))))
      else
       (b2 (f_X4_failed (2 : Int32) μ4) fun x20 μ19 =>
       some (x20, μ19))))))
def f_X4_leaveTrace (a1 : Int32) (μ : Mem) : Option (Mem) :=
  lt (up μ 0 10 (((31 : Int32) * μ 0 10) + a1)) fun μ1 =>
  some μ1
def f_X4_plainBody (a1 : Int32) (μ : Mem) : Option (Int32 × Mem) :=
  b1 (f_X4_leaveTrace (1 : Int32) μ) fun μ1 =>
  ck (inb a1 7) <|
  some (μ1 4 a1.toNatClampNeg, μ1)
def f_X4_longBody (a1 : Int32) (μ : Mem) : Option (Int32 × Mem) :=
  b1 (f_X4_leaveTrace (2 : Int32) μ) fun μ1 =>
  b2 (f_X4_plainBody a1 μ1) fun x3 μ2 =>
  some ((x3 + (100 : Int32)), μ2)
def f_X4_doubleBody (a1 : Int32) (μ : Mem) : Option (Int32 × Mem) :=
  b1 (f_X4_leaveTrace (3 : Int32) μ) fun μ1 =>
  b2 (f_X4_longBody a1 μ1) fun x3 μ2 =>
  b2 (f_X4_plainBody a1 μ2) fun x5 μ4 =>
  some ((x3 + x5), μ4)
def f_X4_tell (a1 : Int32) (μ : Mem) : Option (Int32 × Mem) :=
  b2 (f_X1_hasLeft 2 a1 μ) fun x2 μ1 =>
  if x2 = 0 then
   (some ((-1 : Int32), μ1))
  else
   (ck (inb a1 7) <|
   lt (μ1 3 a1.toNatClampNeg) fun x3 =>
   if x3 = (1 : Int32) then
    (b2 (f_X4_longBody a1 μ1) fun x5 μ4 =>
    some (x5, μ4))
   else
    (if x3 = (2 : Int32) then
     (b2 (f_X4_doubleBody a1 μ1) fun x7 μ6 =>
     some (x7, μ6))
    else
     (b2 (f_X4_plainBody a1 μ1) fun x9 μ8 =>
     some (x9, μ8))))
def f_X4_lentBody (a1 : Int32) (μ : Mem) : Option (Int32 × Mem) :=
  b1 (f_X4_leaveTrace (4 : Int32) μ) fun μ1 =>
  ck (inb a1 7) <|
  some (μ1 5 a1.toNatClampNeg, μ1)
def f_X4_doublesOwnBody (a1 : Int32) (μ : Mem) : Option (Int32 × Mem) :=
  b1 (f_X4_leaveTrace (5 : Int32) μ) fun μ1 =>
  b2 (f_X4_lentBody a1 μ1) fun x3 μ2 =>
  some ((x3 + (80 : Int32)), μ2)
def f_X4_read (a1 : Int32) (μ : Mem) : Option (Int32 × Mem) :=
  b2 (f_X1_hasLeft 2 a1 μ) fun x2 μ1 =>
  if x2 = 0 then
   (some ((-1 : Int32), μ1))
  else
   (ck (inb a1 7) <|
   if μ1 3 a1.toNatClampNeg = (2 : Int32) then
    (b2 (f_X4_doublesOwnBody a1 μ1) fun x6 μ5 =>
    some (x6, μ5))
   else
    (b2 (f_X4_lentBody a1 μ1) fun x4 μ3 =>
    some (x4, μ3)))
def f_X4_as (a1 : Int32) (a2 : Int32) (μ : Mem) : Option (Int32 × Mem) :=
  lt (up μ 0 11 (0 : Int32)) fun μ1 =>
  b2 (f_X1_hasLeft 2 a1 μ1) fun x3 μ2 =>
  if x3 = 0 then
   (some ((-1 : Int32), μ2))
  else
   (if a2 < 0 then
    (some ((-2 : Int32), μ2))
   else
    (if a2 ≤ (2 : Int32) then
     (ck (inb a1 7) <|
     if μ2 3 a1.toNatClampNeg < a2 then
      (b2 (f_X4_failed (2 : Int32) μ2) fun x5 μ4 =>
      some (x5, μ4))
     else
      (some ((1 : Int32), μ2)))
    else
     (some ((-2 : Int32), μ2))))
def f_X4_trace (μ : Mem) : Option (Int32 × Mem) :=
  some (μ 0 10, μ)
def f_X4_fault (μ : Mem) : Option (Int32 × Mem) :=
  some (μ 0 11, μ)
def f_X4_many (a1 : Int32) (μ : Mem) : Option (Int32 × Mem) :=
  if a1 = (0 : Int32) then
   (some (μ 2 5, μ))
  else
   (if a1 = (1 : Int32) then
    (some (μ 2 6, μ))
   else
    (if a1 = (2 : Int32) then
     (some (μ 2 7, μ))
    else
     (if a1 = (3 : Int32) then
      (some (μ 2 8, μ))
     else
      (if a1 = (4 : Int32) then
       (some (μ 2 9, μ))
      else
       (if a1 = (5 : Int32) then
        (some (μ 0 8, μ))
       else
        (some ((-2 : Int32), μ)))))))
def f_X5_fails (a1 : Int32) (μ : Mem) : Option (Int32 × Mem) :=
  lt (up μ 43 0 a1) fun μ1 =>
  some (((-10 : Int32) - a1), μ1)
def f_X5_lost (a1 : Int32) (μ : Mem) : Option (Int64 × Mem) :=
  lt (up μ 43 0 a1) fun μ1 =>
  some ((-9223372036854775808 : Int64), μ1)
def f_X5_within (a0 : Int32) (a1 : Int32) (a2 : Int32) (μ : Mem) : Option (Int32 × Mem) :=
  if a0 < a1 then
   (some ((0 : Int32), μ))
  else
   (if a2 < a0 then
    (some ((0 : Int32), μ))
   else
    (some ((1 : Int32), μ)))
def f_X5_isSheet (a0 : Int32) (μ : Mem) : Option (Int32 × Mem) :=
  b2 (f_X5_within a0 (0 : Int32) (3 : Int32) μ) fun x2 μ1 =>
  ck (bo x2) (some (x2, μ1))
def f_X5_isSort (a0 : Int32) (μ : Mem) : Option (Int32 × Mem) :=
  b2 (f_X5_within a0 (0 : Int32) (2 : Int32) μ) fun x2 μ1 =>
  ck (bo x2) (some (x2, μ1))
def jn_X5_against_23 (x1v : Int32) (x3v : Int32) (x4v : Int32) (μ : Mem) : Option (Int32 × Mem) :=
  ck (inb x1v 4) <|
  if μ 44 x1v.toNatClampNeg = (-9 : Int32) then
   (some ((1 : Int32), μ))
  else
   (if 0 ≤ x4v then
    (if x3v < 0 then
     (some ((3 : Int32), μ))
    else
     (ck (inb x1v 4) <|
     if μ 45 x1v.toNatClampNeg < x3v then
      (some ((3 : Int32), μ))
     else
      (ck (inb x1v 4) <|
      if x4v ≤ (μ 45 x1v.toNatClampNeg - x3v) then
       (some ((0 : Int32), μ))
      else
       (some ((3 : Int32), μ)))))
   else
    (some ((4 : Int32), μ)))
def f_X5_against (a1 : Int32) (a2 : Int32) (a3 : Int32) (a4 : Int32) (μ : Mem) : Option (Int32 × Mem) :=
  ck (inb a1 4) <|
  if μ 44 a1.toNatClampNeg = (-9 : Int32) then
   (jn_X5_against_23 a1 a3 a4 μ)
  else
   (ck (inb a1 4) <|
   if μ 44 a1.toNatClampNeg = a2 then
    (jn_X5_against_23 a1 a3 a4 μ)
   else
    (some ((2 : Int32), μ)))
def f_X5_isLeft (a1 : Int32) (μ : Mem) : Option (Int32 × Mem) :=
  if a1 < 0 then
   (some ((0 : Int32), μ))
  else
   (if μ 43 5 ≤ a1 then
    (some ((0 : Int32), μ))
   else
    (some ((1 : Int32), μ)))
def f_X5_isRight (a1 : Int32) (μ : Mem) : Option (Int32 × Mem) :=
  if a1 < 0 then
   (some ((0 : Int32), μ))
  else
   (if μ 43 6 ≤ a1 then
    (some ((0 : Int32), μ))
   else
    (some ((1 : Int32), μ)))
def f_X5_isSign (a1 : Int32) (a2 : Int32) (μ : Mem) : Option (Int32 × Mem) :=
  if a1 ≤ μ 43 15 then
   (some ((0 : Int32), μ))
  else
   (ck (inb (μ 43 15) 240) <|
   if μ 46 (μ 43 15).toNatClampNeg = a2 then
    (lt (up μ 43 15 (μ 43 15 + (1 : Int32))) fun μ1 =>
    some ((1 : Int32), μ1))
   else
    (some ((0 : Int32), μ)))
def jn_X5_readKindNext_21 (s0v : Int32) (μ : Mem) : Option (Int32 × Mem) :=
  if s0v = (80 : Int32) then
   (ck (inb (μ 43 16) 7) <|
   lt (up μ 52 (μ 43 16).toNatClampNeg (0 : Int32)) fun μ7 =>
   ck (inb (μ7 43 16) 7) <|
   if μ7 52 (μ7 43 16).toNatClampNeg = (-9 : Int32) then
    (some ((0 : Int32), μ7))
   else
    (lt (up μ7 43 15 (μ7 43 15 + (1 : Int32))) fun μ8 =>
    some ((1 : Int32), μ8)))
  else
   (if s0v = (76 : Int32) then
    (ck (inb (μ 43 16) 7) <|
    lt (up μ 52 (μ 43 16).toNatClampNeg (1 : Int32)) fun μ5 =>
    ck (inb (μ5 43 16) 7) <|
    if μ5 52 (μ5 43 16).toNatClampNeg = (-9 : Int32) then
     (some ((0 : Int32), μ5))
    else
     (lt (up μ5 43 15 (μ5 43 15 + (1 : Int32))) fun μ6 =>
     some ((1 : Int32), μ6)))
   else
    (if s0v = (68 : Int32) then
     (ck (inb (μ 43 16) 7) <|
     lt (up μ 52 (μ 43 16).toNatClampNeg (2 : Int32)) fun μ3 =>
     ck (inb (μ3 43 16) 7) <|
     if μ3 52 (μ3 43 16).toNatClampNeg = (-9 : Int32) then
      (some ((0 : Int32), μ3))
     else
      (lt (up μ3 43 15 (μ3 43 15 + (1 : Int32))) fun μ4 =>
      some ((1 : Int32), μ4)))
    else
     (ck (inb (μ 43 16) 7) <|
     lt (up μ 52 (μ 43 16).toNatClampNeg (-9 : Int32)) fun μ1 =>
     ck (inb (μ1 43 16) 7) <|
     if μ1 52 (μ1 43 16).toNatClampNeg = (-9 : Int32) then
      (some ((0 : Int32), μ1))
     else
      (lt (up μ1 43 15 (μ1 43 15 + (1 : Int32))) fun μ2 =>
      some ((1 : Int32), μ2)))))
def f_X5_readKindNext (a1 : Int32) (μ : Mem) : Option (Int32 × Mem) :=
  if a1 ≤ μ 43 15 then
   (jn_X5_readKindNext_21 (0 : Int32) μ)
  else
   (ck (inb (μ 43 15) 240) <|
   jn_X5_readKindNext_21 (μ 46 (μ 43 15).toNatClampNeg) μ)
def jn_X5_readSentence_100 (x2v : Int32) (μ : Mem) : Option (Int32 × Mem) :=
  ck (inb (μ 43 15) 240) <|
  if μ 46 (μ 43 15).toNatClampNeg = (45 : Int32) then
   (ck (inb x2v 14) <|
   lt (up μ 54 x2v.toNatClampNeg (4 : Int32)) fun μ7 =>
   lt (up μ7 43 15 (μ7 43 15 + (1 : Int32))) fun μ8 =>
   some ((1 : Int32), μ8))
  else
   (ck (inb (μ 43 15) 240) <|
   ck (inb x2v 14) <|
   lt (up μ 54 x2v.toNatClampNeg (μ 46 (μ 43 15).toNatClampNeg - (97 : Int32))) fun μ5 =>
   lt (up μ5 43 15 (μ5 43 15 + (1 : Int32))) fun μ6 =>
   some ((1 : Int32), μ6))
def f_X5_readSentence (a1 : Int32) (a2 : Int32) (μ : Mem) : Option (Int32 × Mem) :=
  if a1 ≤ μ 43 15 then
   (some ((0 : Int32), μ))
  else
   (ck (inb (μ 43 15) 240) <|
   b2 (f_X5_within (μ 46 (μ 43 15).toNatClampNeg) (49 : Int32) (57 : Int32) μ) fun x2 μ1 =>
   if x2 = 0 then
    (some ((0 : Int32), μ1))
   else
    (ck (inb (μ1 43 15) 240) <|
    ck (inb a2 14) <|
    lt (up μ1 53 a2.toNatClampNeg (μ1 46 (μ1 43 15).toNatClampNeg - (48 : Int32))) fun μ3 =>
    lt (up μ3 43 15 (μ3 43 15 + (1 : Int32))) fun μ4 =>
    if a1 ≤ μ4 43 15 then
     (some ((0 : Int32), μ4))
    else
     (ck (inb (μ4 43 15) 240) <|
     if μ4 46 (μ4 43 15).toNatClampNeg = (45 : Int32) then
      (jn_X5_readSentence_100 a2 μ4)
     else
      (ck (inb (μ4 43 15) 240) <|
      b2 (f_X5_within (μ4 46 (μ4 43 15).toNatClampNeg) (97 : Int32) (100 : Int32) μ4) fun x10 μ9 =>
      if x10 = 0 then
       (some ((0 : Int32), μ9))
      else
       (jn_X5_readSentence_100 a2 μ9)))))
def jn_X5_readAll_60 (ih : Mem → Option ((Mem) ⊕ (Int32 × Mem))) (x1v : Int32) (μ : Mem) : Option ((Mem) ⊕ (Int32 × Mem)) :=
  b2 (f_X5_isSign x1v (59 : Int32) μ) fun x6 μ5 =>
  if x6 = 0 then
   (some (.inr ((0 : Int32), μ5)))
  else
   (b2 (f_X5_readKindNext x1v μ5) fun x8 μ7 =>
   if x8 = 0 then
    (some (.inr ((0 : Int32), μ7)))
   else
    (b2 (f_X5_readSentence x1v (μ7 43 16) μ7) fun x10 μ9 =>
    if x10 = 0 then
     (some (.inr ((0 : Int32), μ9)))
    else
     (lt (up μ9 43 16 (μ9 43 16 + (1 : Int32))) fun μ11 =>
     ih  μ11)))
def lp_X5_readAll_22 (x1v : Int32) : Nat → Mem → Option ((Mem) ⊕ (Int32 × Mem))
  | 0, _ => none
  | n + 1, μ =>
    if μ 43 16 = 0 then
     (jn_X5_readAll_60 (lp_X5_readAll_22 x1v n) x1v μ)
    else
     (if (7 : Int32) ≤ μ 43 16 then
      (some (.inl μ))
     else
      (if x1v ≤ μ 43 15 then
       (some (.inl μ))
      else
       (ck (inb (μ 43 15) 240) <|
       if μ 46 (μ 43 15).toNatClampNeg = (59 : Int32) then
        (jn_X5_readAll_60 (lp_X5_readAll_22 x1v n) x1v μ)
       else
        (some (.inl μ)))))
def jn_X5_readAll_129 (ih : Mem → Option ((Mem) ⊕ (Int32 × Mem))) (x1v : Int32) (μ : Mem) : Option ((Mem) ⊕ (Int32 × Mem)) :=
  b2 (f_X5_isSign x1v (44 : Int32) μ) fun x14 μ13 =>
  if x14 = 0 then
   (some (.inr ((0 : Int32), μ13)))
  else
   (b2 (f_X5_readSentence x1v ((7 : Int32) + μ13 43 17) μ13) fun x16 μ15 =>
   if x16 = 0 then
    (some (.inr ((0 : Int32), μ15)))
   else
    (lt (up μ15 43 17 (μ15 43 17 + (1 : Int32))) fun μ17 =>
    ih  μ17))
def lp_X5_readAll_105 (x1v : Int32) : Nat → Mem → Option ((Mem) ⊕ (Int32 × Mem))
  | 0, _ => none
  | n + 1, μ =>
    if μ 43 17 = 0 then
     (jn_X5_readAll_129 (lp_X5_readAll_105 x1v n) x1v μ)
    else
     (if (7 : Int32) ≤ μ 43 17 then
      (some (.inl μ))
     else
      (if x1v ≤ μ 43 15 then
       (some (.inl μ))
      else
       (jn_X5_readAll_129 (lp_X5_readAll_105 x1v n) x1v μ)))
def jn_X5_readAll_169 (x1v : Int32) (μ : Mem) : Option (Int32 × Mem) :=
  if μ 43 15 = x1v then
   (some ((1 : Int32), μ))
  else
   (some ((0 : Int32), μ))
def jn_X5_readAll_105 (x1v : Int32) (μ : Mem) : Option (Int32 × Mem) :=
  s1 (lp_X5_readAll_105 x1v FU μ) (fun μ18 =>
   jn_X5_readAll_169 x1v μ18) (fun o => some o)
def f_X5_readAll (a1 : Int32) (μ : Mem) : Option (Int32 × Mem) :=
  lt (up μ 43 16 (0 : Int32)) fun μ1 =>
  lt (up μ1 43 17 (0 : Int32)) fun μ2 =>
  b2 (f_X5_isSign a1 (98 : Int32) μ2) fun x4 μ3 =>
  if x4 = 0 then
   (some ((0 : Int32), μ3))
  else
   (s1 (lp_X5_readAll_22 a1 FU μ3) (fun μ12 =>
    jn_X5_readAll_105 a1 μ12) (fun o => some o))
def lp_X5_books_103 : Nat → Int32 → Mem → Option (Mem)
  | 0, _, _ => none
  | n + 1, x7v, μ =>
    if (7 : Int32) ≤ x7v then
     (some μ)
    else
     (ck (inb x7v 7) <|
     ck (inb x7v 7) <|
     lt (up μ 47 x7v.toNatClampNeg (μ 52 x7v.toNatClampNeg)) fun μ14 =>
     ck (inb x7v 14) <|
     ck (inb x7v 7) <|
     lt (up μ14 48 x7v.toNatClampNeg (μ14 53 x7v.toNatClampNeg)) fun μ15 =>
     ck (inb x7v 14) <|
     ck (inb x7v 7) <|
     lt (up μ15 49 x7v.toNatClampNeg (μ15 54 x7v.toNatClampNeg)) fun μ16 =>
     ck (inb ((7 : Int32) + x7v) 14) <|
     ck (inb x7v 7) <|
     lt (up μ16 50 x7v.toNatClampNeg (μ16 53 ((7 : Int32) + x7v).toNatClampNeg)) fun μ17 =>
     ck (inb ((7 : Int32) + x7v) 14) <|
     ck (inb x7v 7) <|
     lt (up μ17 51 x7v.toNatClampNeg (μ17 54 ((7 : Int32) + x7v).toNatClampNeg)) fun μ18 =>
     lt (x7v + (1 : Int32)) fun x19 =>
     lp_X5_books_103 n x19 μ18)
def f_X5_books (a1 : Int32) (a2 : Int32) (a3 : Int32) (a4 : Int32) (μ : Mem) : Option (Int32 × Mem) :=
  lt (up μ 43 0 (0 : Int32)) fun μ1 =>
  b2 (f_X5_isSheet a1 μ1) fun x3 μ2 =>
  if x3 = 0 then
   (some ((-1 : Int32), μ2))
  else
   (b2 (f_X5_isSort a2 μ2) fun x5 μ4 =>
   if x5 = 0 then
    (some ((-2 : Int32), μ4))
   else
    (b2 (f_X5_against a1 a2 a3 a4 μ4) fun x7 μ6 =>
    if x7 = 0 then
     (lt (((60 : Int32) * a1) + a3) fun x8 =>
     lt (up μ6 43 15 x8) fun μ9 =>
     b2 (f_X5_readAll (x8 + a4) μ9) fun x11 μ10 =>
     if x11 = 0 then
      (some (((-100 : Int32) - (μ10 43 15 - x8)), μ10))
     else
      (lt (up μ10 43 5 (μ10 43 16)) fun μ12 =>
      lt (up μ12 43 6 (μ12 43 17)) fun μ13 =>
      b1 (lp_X5_books_103 FU (0 : Int32) μ13) fun μ20 =>
      lt (up μ20 43 7 (4 : Int32)) fun μ21 =>
      lt (up μ21 43 8 (1 : Int32)) fun μ22 =>
      lt (up μ22 43 9 (7 : Int32)) fun μ23 =>
      lt (up μ23 43 29 (0 : Int32)) fun μ24 =>
      some ((μ24 43 5 + μ24 43 6), μ24)))
    else
     (b2 (f_X5_fails x7 μ6) fun x26 μ25 =>
     some (x26, μ25))))
def f_X5_lengthOf (a1 : Int32) (μ : Mem) : Option (Int32 × Mem) :=
  ck (inb a1 7) <|
  if μ 47 a1.toNatClampNeg = 0 then
   (ck (inb a1 7) <|
   some (μ 48 a1.toNatClampNeg, μ))
  else
   (ck (inb a1 7) <|
   if μ 47 a1.toNatClampNeg = (1 : Int32) then
    (ck (inb a1 7) <|
    some ((μ 48 a1.toNatClampNeg + (1 : Int32)), μ))
   else
    (ck (inb a1 7) <|
    some (((2 : Int32) * μ 48 a1.toNatClampNeg), μ)))
def f_X5_leftsOf (a0 : Int32) (μ : Mem) : Option (Int32 × Mem) :=
  if a0 = (2 : Int32) then
   (some ((0 : Int32), μ))
  else
   (if a0 = (3 : Int32) then
    (some ((2 : Int32), μ))
   else
    (some ((1 : Int32), μ)))
def f_X5_rightsOf (a0 : Int32) (μ : Mem) : Option (Int32 × Mem) :=
  if a0 = (1 : Int32) then
   (some ((0 : Int32), μ))
  else
   (if a0 = (4 : Int32) then
    (some ((2 : Int32), μ))
   else
    (some ((1 : Int32), μ)))
def f_X5_anchorSet (a0 : Int32) (μ : Mem) : Option (Int32 × Mem) :=
  if a0 = (4 : Int32) then
   (some ((0 : Int32), μ))
  else
   (some (((1 : Int32) <<< (a0 &&& 31)), μ))
def lp_X5_costOf_45 (x1v : Int32) (x2v : Int32) (x3v : Int32) (x6v : Int32) : Nat → Int32 → Int32 → Int32 → Mem → Option (Int32 × Int32 × Mem)
  | 0, _, _, _, _ => none
  | n + 1, x4v, x5v, x7v, μ =>
    b2 (f_X5_leftsOf x1v μ) fun x2 μ1 =>
    if (x2v + x2) ≤ x7v then
     (some (x4v, x5v, μ1))
    else
     (b2 (f_X5_lengthOf x7v μ1) fun x4 μ3 =>
     lt (x4v + x4) fun x5 =>
     ck (inb x7v 7) <|
     b2 (f_X5_anchorSet (μ3 49 x7v.toNatClampNeg) μ3) fun x7 μ6 =>
     lt (x5v ||| x7) fun x8 =>
     lt (x7v + (1 : Int32)) fun x9 =>
     lp_X5_costOf_45 x1v x2v x3v x6v n x5 x8 x9 μ6)
def lp_X5_costOf_91 (x1v : Int32) (x3v : Int32) (x5v : Int32) : Nat → Int32 → Int32 → Int32 → Mem → Option (Int32 × Int32 × Mem)
  | 0, _, _, _, _ => none
  | n + 1, x4v, x6v, x7v, μ =>
    b2 (f_X5_rightsOf x1v μ) fun x14 μ13 =>
    if (x3v + x14) ≤ x7v then
     (some (x4v, x6v, μ13))
    else
     (ck (inb x7v 7) <|
     lt (x4v - μ13 50 x7v.toNatClampNeg) fun x15 =>
     ck (inb x7v 7) <|
     b2 (f_X5_anchorSet (μ13 51 x7v.toNatClampNeg) μ13) fun x17 μ16 =>
     lt (x6v ||| x17) fun x18 =>
     lt (x7v + (1 : Int32)) fun x19 =>
     lp_X5_costOf_91 x1v x3v x5v n x15 x18 x19 μ16)
def jn_X5_costOf_160 (x1v : Int32) (s0v : Int32) (s1v : Int32) (μ : Mem) : Option (Int32 × Mem) :=
  if x1v ≤ (2 : Int32) then
   (some (((s1v + s0v) + (0 : Int32)), μ))
  else
   (some (((s1v + s0v) + μ 43 8), μ))
def jn_X5_costOf_148 (x1v : Int32) (x5v : Int32) (x6v : Int32) (s0v : Int32) (μ : Mem) : Option (Int32 × Mem) :=
  if x5v = x6v then
   (jn_X5_costOf_160 x1v (0 : Int32) s0v μ)
  else
   (jn_X5_costOf_160 x1v (3 : Int32) s0v μ)
def f_X5_costOf (a1 : Int32) (a2 : Int32) (a3 : Int32) (μ : Mem) : Option (Int32 × Mem) :=
  if a1 = (1 : Int32) then
   (b2 (f_X5_lengthOf a2 μ) fun x24 μ23 =>
   some ((μ 43 7 + x24), μ23))
  else
   (if a1 = (2 : Int32) then
    (ck (inb a3 7) <|
    some ((μ 43 7 + μ 50 a3.toNatClampNeg), μ))
   else
    (b3 (lp_X5_costOf_45 a1 a2 a3 (0 : Int32) FU (0 : Int32) (0 : Int32) a2 μ) fun x10 x11 μ12 =>
    b3 (lp_X5_costOf_91 a1 a3 x11 FU x10 (0 : Int32) a3 μ12) fun x20 x21 μ22 =>
    if 0 ≤ x20 then
     (jn_X5_costOf_148 a1 x11 x21 x20 μ22)
    else
     (jn_X5_costOf_148 a1 x11 x21 (-x20) μ22)))
def f_X5_isStand (a1 : Int32) (a2 : Int32) (a3 : Int32) (μ : Mem) : Option (Int32 × Mem) :=
  if μ 43 5 < a1 then
   (some ((0 : Int32), μ))
  else
   (if μ 43 6 < a2 then
    (some ((0 : Int32), μ))
   else
    (if a3 < (a1 - a2) then
     (some ((0 : Int32), μ))
    else
     (if a3 < (a2 - a1) then
      (some ((0 : Int32), μ))
     else
      (some ((1 : Int32), μ)))))
def f_X5_comes (a1 : Int32) (a2 : Int32) (a3 : Int32) (μ : Mem) : Option (Mem) :=
  if a2 < (99999 : Int32) then
   (ck (inb a1 64) <|
   if μ 55 a1.toNatClampNeg ≤ a2 then
    (ck (inb a1 64) <|
    if a2 = μ 55 a1.toNatClampNeg then
     (ck (inb a1 64) <|
     ck (inb a1 64) <|
     lt (up μ 57 a1.toNatClampNeg (μ 57 a1.toNatClampNeg + a3)) fun μ2 =>
     ck (inb a1 64) <|
     lt (up μ2 56 a1.toNatClampNeg a2) fun μ3 =>
     some μ3)
    else
     (ck (inb a1 64) <|
     if μ 56 a1.toNatClampNeg ≤ a2 then
      (some μ)
     else
      (ck (inb a1 64) <|
      lt (up μ 56 a1.toNatClampNeg a2) fun μ1 =>
      some μ1)))
   else
    (ck (inb a1 64) <|
    ck (inb a1 64) <|
    lt (up μ 56 a1.toNatClampNeg (μ 55 a1.toNatClampNeg)) fun μ4 =>
    ck (inb a1 64) <|
    lt (up μ4 55 a1.toNatClampNeg a2) fun μ5 =>
    ck (inb a1 64) <|
    lt (up μ5 57 a1.toNatClampNeg a3) fun μ6 =>
    some μ6))
  else
   (some μ)
def lp_X5_findStand_81 (x1v : Int32) (x2v : Int32) (x3v : Int32) (x4v : Int32) : Nat → Int32 → Mem → Option (Mem)
  | 0, _, _ => none
  | n + 1, x5v, μ =>
    if (5 : Int32) ≤ x5v then
     (some μ)
    else
     (b2 (f_X5_leftsOf x5v μ) fun x8 μ7 =>
     lt (x1v + x8) fun x9 =>
     b2 (f_X5_rightsOf x5v μ7) fun x11 μ10 =>
     lt (x2v + x11) fun x12 =>
     b2 (f_X5_isStand x9 x12 x3v μ10) fun x14 μ13 =>
     if x14 = 0 then
      (lt (x5v + (1 : Int32)) fun x15 =>
      lp_X5_findStand_81 x1v x2v x3v x4v n x15 μ13)
     else
      (lt (((8 : Int32) * x9) + x12) fun x16 =>
      b2 (f_X5_costOf x5v x1v x2v μ13) fun x18 μ17 =>
      ck (inb x16 64) <|
      ck (inb x16 64) <|
      b1 (f_X5_comes x4v (x18 + μ17 55 x16.toNatClampNeg) (μ17 57 x16.toNatClampNeg) μ17) fun μ19 =>
      ck (inb x16 64) <|
      ck (inb x16 64) <|
      if μ19 56 x16.toNatClampNeg = μ19 55 x16.toNatClampNeg then
       (b1 (f_X5_comes x4v (99999 : Int32) (1 : Int32) μ19) fun μ22 =>
       lt (x5v + (1 : Int32)) fun x23 =>
       lp_X5_findStand_81 x1v x2v x3v x4v n x23 μ22)
      else
       (ck (inb x16 64) <|
       b1 (f_X5_comes x4v (x18 + μ19 56 x16.toNatClampNeg) (1 : Int32) μ19) fun μ20 =>
       lt (x5v + (1 : Int32)) fun x21 =>
       lp_X5_findStand_81 x1v x2v x3v x4v n x21 μ20)))
def jn_X5_findStand_78 (x1v : Int32) (x2v : Int32) (x3v : Int32) (x4v : Int32) (μ : Mem) : Option (Mem) :=
  b1 (lp_X5_findStand_81 x1v x2v x3v x4v FU (0 : Int32) μ) fun μ24 =>
  ck (inb x4v 64) <|
  if μ24 57 x4v.toNatClampNeg ≤ (1 : Int32) then
   (ck (inb x4v 64) <|
   ck (inb x4v 64) <|
   lt (up μ24 56 x4v.toNatClampNeg (μ24 56 x4v.toNatClampNeg)) fun μ25 =>
   some μ25)
  else
   (ck (inb x4v 64) <|
   ck (inb x4v 64) <|
   lt (up μ24 56 x4v.toNatClampNeg (μ24 55 x4v.toNatClampNeg)) fun μ26 =>
   some μ26)
def f_X5_findStand (a1 : Int32) (a2 : Int32) (a3 : Int32) (μ : Mem) : Option (Mem) :=
  lt (((8 : Int32) * a1) + a2) fun x1 =>
  ck (inb x1 64) <|
  lt (up μ 55 x1.toNatClampNeg (99999 : Int32)) fun μ2 =>
  ck (inb x1 64) <|
  lt (up μ2 56 x1.toNatClampNeg (99999 : Int32)) fun μ3 =>
  ck (inb x1 64) <|
  lt (up μ3 57 x1.toNatClampNeg (0 : Int32)) fun μ4 =>
  b2 (f_X5_isStand a1 a2 a3 μ4) fun x6 μ5 =>
  if x6 = 0 then
   (some μ5)
  else
   (if a1 = μ5 43 5 then
    (if a2 = μ5 43 6 then
     (ck (inb x1 64) <|
     lt (up μ5 55 x1.toNatClampNeg (0 : Int32)) fun μ27 =>
     ck (inb x1 64) <|
     lt (up μ27 57 x1.toNatClampNeg (1 : Int32)) fun μ28 =>
     some μ28)
    else
     (jn_X5_findStand_78 a1 a2 a3 x1 μ5))
   else
    (jn_X5_findStand_78 a1 a2 a3 x1 μ5))
def lp_X5_findAll_14 (x1v : Int32) (x2v : Int32) : Nat → Int32 → Mem → Option (Mem)
  | 0, _, _ => none
  | n + 1, x3v, μ =>
    if x3v < 0 then
     (some μ)
    else
     (b1 (f_X5_findStand x2v x3v x1v μ) fun μ3 =>
     lt (x3v + (-1 : Int32)) fun x4 =>
     lp_X5_findAll_14 x1v x2v n x4 μ3)
def lp_X5_findAll_5 (x1v : Int32) : Nat → Int32 → Mem → Option (Mem)
  | 0, _, _ => none
  | n + 1, x2v, μ =>
    if x2v < 0 then
     (some μ)
    else
     (lt (μ 43 6) fun x2 =>
     b1 (lp_X5_findAll_14 x1v x2v FU x2 μ) fun μ5 =>
     lt (x2v + (-1 : Int32)) fun x6 =>
     lp_X5_findAll_5 x1v n x6 μ5)
def f_X5_findAll (a1 : Int32) (μ : Mem) : Option (Int32 × Mem) :=
  lt (μ 43 5) fun x1 =>
  b1 (lp_X5_findAll_5 a1 FU x1 μ) fun μ7 =>
  ck (inb (0 : Int32) 64) <|
  if μ7 55 (0 : Int32).toNatClampNeg < (99999 : Int32) then
   (ck (inb (0 : Int32) 64) <|
   some (μ7 55 (0 : Int32).toNatClampNeg, μ7))
  else
   (some ((-9 : Int32), μ7))
def f_X5_isOnBest (a1 : Int32) (a2 : Int32) (a3 : Int32) (μ : Mem) : Option (Int32 × Mem) :=
  b2 (f_X5_leftsOf a1 μ) fun x2 μ1 =>
  lt (a2 + x2) fun x3 =>
  b2 (f_X5_rightsOf a1 μ1) fun x5 μ4 =>
  lt (a3 + x5) fun x6 =>
  b2 (f_X5_isStand x3 x6 (μ4 43 9) μ4) fun x8 μ7 =>
  if x8 = 0 then
   (some ((0 : Int32), μ7))
  else
   (b2 (f_X5_costOf a1 a2 a3 μ7) fun x10 μ9 =>
   ck (inb (((8 : Int32) * x3) + x6) 64) <|
   ck (inb (((8 : Int32) * a2) + a3) 64) <|
   if (x10 + μ9 55 (((8 : Int32) * x3) + x6).toNatClampNeg) = μ9 55 (((8 : Int32) * a2) + a3).toNatClampNeg then
    (some ((1 : Int32), μ9))
   else
    (some ((0 : Int32), μ9)))
def lp_X5_findBest_43 (x1v : Int32) (x2v : Int32) (x3v : Int32) : Nat → Int32 → Mem → Option (Int32 × Mem)
  | 0, _, _ => none
  | n + 1, x4v, μ =>
    b2 (f_X5_isOnBest x4v x2v x3v μ) fun x5 μ4 =>
    if x5 = 0 then
     (lt (x4v + (1 : Int32)) fun x6 =>
     lp_X5_findBest_43 x1v x2v x3v n x6 μ4)
    else
     (some (x4v, μ4))
def jn_X5_findBest_40 (ih : Int32 → Int32 → Mem → Option (Mem)) (x1v : Int32) (x2v : Int32) (x3v : Int32) (μ : Mem) : Option (Mem) :=
  b2 (lp_X5_findBest_43 x1v x2v x3v FU (0 : Int32) μ) fun x7 μ8 =>
  ck (inb (μ8 43 24) 14) <|
  lt (up μ8 58 (μ8 43 24).toNatClampNeg x7) fun μ9 =>
  ck (inb (μ9 43 24) 14) <|
  lt (up μ9 59 (μ9 43 24).toNatClampNeg x2v) fun μ10 =>
  ck (inb (μ10 43 24) 14) <|
  lt (up μ10 60 (μ10 43 24).toNatClampNeg x3v) fun μ11 =>
  lt (up μ11 43 24 (μ11 43 24 + (1 : Int32))) fun μ12 =>
  b2 (f_X5_leftsOf x7 μ12) fun x14 μ13 =>
  lt (x2v + x14) fun x15 =>
  b2 (f_X5_rightsOf x7 μ13) fun x17 μ16 =>
  lt (x3v + x17) fun x18 =>
  ih x15 x18 μ16
def lp_X5_findBest_18 (x1v : Int32) : Nat → Int32 → Int32 → Mem → Option (Mem)
  | 0, _, _, _ => none
  | n + 1, x2v, x3v, μ =>
    if x1v = (-9 : Int32) then
     (some μ)
    else
     (if x2v < μ 43 5 then
      (jn_X5_findBest_40 (lp_X5_findBest_18 x1v n) x1v x2v x3v μ)
     else
      (if μ 43 6 ≤ x3v then
       (some μ)
      else
       (jn_X5_findBest_40 (lp_X5_findBest_18 x1v n) x1v x2v x3v μ)))
def f_X5_findBest (μ : Mem) : Option (Int32 × Mem) :=
  b2 (f_X5_findAll (μ 43 9) μ) fun x2 μ1 =>
  lt (up μ1 43 24 (0 : Int32)) fun μ3 =>
  b1 (lp_X5_findBest_18 x2 FU (0 : Int32) (0 : Int32) μ3) fun μ19 =>
  some (x2, μ19)
def jn_X5_pairedWith_116 (ih : Int32 → Int32 → Mem → Option (Int32 × Mem)) (x1v : Int32) (x2v : Int32) (x3v : Int32) (x4v : Int32) (x5v : Int32) (x6v : Int32) (x7v : Int32) (s0v : Int32) (μ : Mem) : Option (Int32 × Mem) :=
  if x2v < x5v then
   (lt (x3v ||| (0 : Int32)) fun x5 =>
   lt (x4v + (1 : Int32)) fun x6 =>
   ih x5 x6 μ)
  else
   (if (x5v + x6v) ≤ x2v then
    (lt (x3v ||| (0 : Int32)) fun x7 =>
    lt (x4v + (1 : Int32)) fun x8 =>
    ih x7 x8 μ)
   else
    (lt (x3v ||| ((((1 : Int32) <<< (s0v &&& 31)) - (1 : Int32)) <<< (x7v &&& 31))) fun x9 =>
    lt (x4v + (1 : Int32)) fun x10 =>
    ih x9 x10 μ))
def jn_X5_pairedWith_87 (ih : Int32 → Int32 → Mem → Option (Int32 × Mem)) (x1v : Int32) (x2v : Int32) (x3v : Int32) (x4v : Int32) (x5v : Int32) (x6v : Int32) (s0v : Int32) (μ : Mem) : Option (Int32 × Mem) :=
  if x1v = 0 then
   (ck (inb x4v 14) <|
   b2 (f_X5_rightsOf (μ 58 x4v.toNatClampNeg) μ) fun x12 μ11 =>
   jn_X5_pairedWith_116 ih x1v x2v x3v x4v x5v x6v s0v x12 μ11)
  else
   (ck (inb x4v 14) <|
   b2 (f_X5_leftsOf (μ 58 x4v.toNatClampNeg) μ) fun x4 μ3 =>
   jn_X5_pairedWith_116 ih x1v x2v x3v x4v x5v x6v s0v x4 μ3)
def jn_X5_pairedWith_64 (ih : Int32 → Int32 → Mem → Option (Int32 × Mem)) (x1v : Int32) (x2v : Int32) (x3v : Int32) (x4v : Int32) (x5v : Int32) (s0v : Int32) (μ : Mem) : Option (Int32 × Mem) :=
  if x1v = 0 then
   (ck (inb x4v 14) <|
   jn_X5_pairedWith_87 ih x1v x2v x3v x4v x5v s0v (μ 60 x4v.toNatClampNeg) μ)
  else
   (ck (inb x4v 14) <|
   jn_X5_pairedWith_87 ih x1v x2v x3v x4v x5v s0v (μ 59 x4v.toNatClampNeg) μ)
def jn_X5_pairedWith_35 (ih : Int32 → Int32 → Mem → Option (Int32 × Mem)) (x1v : Int32) (x2v : Int32) (x3v : Int32) (x4v : Int32) (s0v : Int32) (μ : Mem) : Option (Int32 × Mem) :=
  if x1v = 0 then
   (ck (inb x4v 14) <|
   b2 (f_X5_leftsOf (μ 58 x4v.toNatClampNeg) μ) fun x14 μ13 =>
   jn_X5_pairedWith_64 ih x1v x2v x3v x4v s0v x14 μ13)
  else
   (ck (inb x4v 14) <|
   b2 (f_X5_rightsOf (μ 58 x4v.toNatClampNeg) μ) fun x2 μ1 =>
   jn_X5_pairedWith_64 ih x1v x2v x3v x4v s0v x2 μ1)
def lp_X5_pairedWith_5 (x1v : Int32) (x2v : Int32) : Nat → Int32 → Int32 → Mem → Option (Int32 × Mem)
  | 0, _, _, _ => none
  | n + 1, x3v, x4v, μ =>
    if μ 43 24 ≤ x4v then
     (some (x3v, μ))
    else
     (if x1v = 0 then
      (ck (inb x4v 14) <|
      jn_X5_pairedWith_35 (lp_X5_pairedWith_5 x1v x2v n) x1v x2v x3v x4v (μ 59 x4v.toNatClampNeg) μ)
     else
      (ck (inb x4v 14) <|
      jn_X5_pairedWith_35 (lp_X5_pairedWith_5 x1v x2v n) x1v x2v x3v x4v (μ 60 x4v.toNatClampNeg) μ))
def f_X5_pairedWith (a1 : Int32) (a2 : Int32) (μ : Mem) : Option (Int32 × Mem) :=
  b2 (lp_X5_pairedWith_5 a1 a2 FU (0 : Int32) (0 : Int32) μ) fun x15 μ16 =>
  some (x15, μ16)
def f_X5_ofLeft (a1 : Int32) (a2 : Int32) (μ : Mem) : Option (Int32 × Mem) :=
  b2 (f_X5_isLeft a1 μ) fun x2 μ1 =>
  if x2 = 0 then
   (some ((-1 : Int32), μ1))
  else
   (if a2 = (0 : Int32) then
    (ck (inb a1 7) <|
    some (μ1 47 a1.toNatClampNeg, μ1))
   else
    (if a2 = (1 : Int32) then
     (ck (inb a1 7) <|
     some (μ1 48 a1.toNatClampNeg, μ1))
    else
     (if a2 = (2 : Int32) then
      (b2 (f_X5_lengthOf a1 μ1) fun x4 μ3 =>
      some (x4, μ3))
     else
      (if a2 = (3 : Int32) then
       (ck (inb a1 7) <|
       some (μ1 49 a1.toNatClampNeg, μ1))
      else
       (if a2 = (4 : Int32) then
        (b2 (f_X5_findBest μ1) fun x6 μ5 =>
        b2 (f_X5_pairedWith (0 : Int32) a1 μ5) fun x8 μ7 =>
        some (x8, μ7))
       else
        (some ((-2 : Int32), μ1)))))))
def f_X5_ofRight (a1 : Int32) (a2 : Int32) (μ : Mem) : Option (Int32 × Mem) :=
  b2 (f_X5_isRight a1 μ) fun x2 μ1 =>
  if x2 = 0 then
   (some ((-1 : Int32), μ1))
  else
   (if a2 = (2 : Int32) then
    (b2 (f_X5_findBest μ1) fun x4 μ3 =>
    b2 (f_X5_pairedWith (1 : Int32) a1 μ3) fun x6 μ5 =>
    some (x6, μ5))
   else
    (if a2 = 0 then
     (ck (inb a1 7) <|
     some (μ1 50 a1.toNatClampNeg, μ1))
    else
     (if a2 = (1 : Int32) then
      (ck (inb a1 7) <|
      some (μ1 51 a1.toNatClampNeg, μ1))
     else
      (some ((-2 : Int32), μ1)))))
def jn_X5_letters_69 (x1v : Int32) (x2v : Int32) (x3v : Int32) (s0v : Int32) (μ : Mem) : Option (Int32 × Mem) :=
  if x1v = 0 then
   (ck (inb x2v 7) <|
   lt (up μ 48 x2v.toNatClampNeg x3v) fun μ8 =>
   some (s0v, μ8))
  else
   (ck (inb x2v 7) <|
   lt (up μ 50 x2v.toNatClampNeg x3v) fun μ7 =>
   some (s0v, μ7))
def jn_X5_letters_37 (x1v : Int32) (x2v : Int32) (x3v : Int32) (μ : Mem) : Option (Int32 × Mem) :=
  b2 (f_X5_within x3v (1 : Int32) (9 : Int32) μ) fun x6 μ5 =>
  if x6 = 0 then
   (some ((-2 : Int32), μ5))
  else
   (if x1v = 0 then
    (ck (inb x2v 7) <|
    jn_X5_letters_69 x1v x2v x3v (μ5 48 x2v.toNatClampNeg) μ5)
   else
    (ck (inb x2v 7) <|
    jn_X5_letters_69 x1v x2v x3v (μ5 50 x2v.toNatClampNeg) μ5))
def f_X5_letters (a1 : Int32) (a2 : Int32) (a3 : Int32) (μ : Mem) : Option (Int32 × Mem) :=
  b2 (f_X5_within a1 (0 : Int32) (1 : Int32) μ) fun x2 μ1 =>
  if x2 = 0 then
   (some ((-2 : Int32), μ1))
  else
   (if a1 = 0 then
    (b2 (f_X5_isLeft a2 μ1) fun x10 μ9 =>
    if x10 = 0 then
     (some ((-1 : Int32), μ9))
    else
     (jn_X5_letters_37 a1 a2 a3 μ9))
   else
    (b2 (f_X5_isRight a2 μ1) fun x4 μ3 =>
    if x4 = 0 then
     (some ((-1 : Int32), μ3))
    else
     (jn_X5_letters_37 a1 a2 a3 μ3)))
def jn_X5_price_103 (x1v : Int32) (x2v : Int32) (x3v : Int32) (s0v : Int32) (μ : Mem) : Option (Int32 × Mem) :=
  lt (up μ 43 8 s0v) fun μ6 =>
  if x1v = (2 : Int32) then
   (lt (up μ6 43 9 x2v) fun μ8 =>
   some (x3v, μ8))
  else
   (lt (up μ6 43 9 (μ6 43 9)) fun μ7 =>
   some (x3v, μ7))
def jn_X5_price_86 (x1v : Int32) (x2v : Int32) (x3v : Int32) (s0v : Int32) (μ : Mem) : Option (Int32 × Mem) :=
  lt (up μ 43 7 s0v) fun μ5 =>
  if x1v = (1 : Int32) then
   (jn_X5_price_103 x1v x2v x3v x2v μ5)
  else
   (jn_X5_price_103 x1v x2v x3v (μ5 43 8) μ5)
def jn_X5_price_72 (x1v : Int32) (x2v : Int32) (s0v : Int32) (μ : Mem) : Option (Int32 × Mem) :=
  if x1v = 0 then
   (jn_X5_price_86 x1v x2v s0v x2v μ)
  else
   (jn_X5_price_86 x1v x2v s0v (μ 43 7) μ)
def jn_X5_price_36 (x1v : Int32) (x2v : Int32) (s0v : Int32) (s1v : Int32) (s2v : Int32) (μ : Mem) : Option (Int32 × Mem) :=
  b2 (f_X5_within s2v s1v s0v μ) fun x4 μ3 =>
  if x4 = 0 then
   (some ((-2 : Int32), μ3))
  else
   (if x1v = 0 then
    (jn_X5_price_72 x1v x2v (μ3 43 7) μ3)
   else
    (if x1v = (1 : Int32) then
     (jn_X5_price_72 x1v x2v (μ3 43 8) μ3)
    else
     (jn_X5_price_72 x1v x2v (μ3 43 9) μ3)))
def f_X5_price (a1 : Int32) (a2 : Int32) (μ : Mem) : Option (Int32 × Mem) :=
  b2 (f_X5_within a1 (0 : Int32) (2 : Int32) μ) fun x2 μ1 =>
  if x2 = 0 then
   (some ((-2 : Int32), μ1))
  else
   (if μ1 43 5 = 0 then
    (some ((-3 : Int32), μ1))
   else
    (if a1 = (2 : Int32) then
     (jn_X5_price_36 a1 a2 (7 : Int32) (0 : Int32) a2 μ1)
    else
     (jn_X5_price_36 a1 a2 (9 : Int32) (0 : Int32) a2 μ1)))
def f_X5_goesUp (a1 : Int32) (μ : Mem) : Option (Mem) :=
  ck (inb a1 7) <|
  lt (μ 50 a1.toNatClampNeg) fun x1 =>
  ck (inb a1 7) <|
  lt (μ 51 a1.toNatClampNeg) fun x2 =>
  ck (inb (a1 - (1 : Int32)) 7) <|
  ck (inb a1 7) <|
  lt (up μ 50 a1.toNatClampNeg (μ 50 (a1 - (1 : Int32)).toNatClampNeg)) fun μ3 =>
  ck (inb (a1 - (1 : Int32)) 7) <|
  ck (inb a1 7) <|
  lt (up μ3 51 a1.toNatClampNeg (μ3 51 (a1 - (1 : Int32)).toNatClampNeg)) fun μ4 =>
  ck (inb (a1 - (1 : Int32)) 7) <|
  lt (up μ4 50 (a1 - (1 : Int32)).toNatClampNeg x1) fun μ5 =>
  ck (inb (a1 - (1 : Int32)) 7) <|
  lt (up μ5 51 (a1 - (1 : Int32)).toNatClampNeg x2) fun μ6 =>
  some μ6
def lp_X5_move_61 (x1v : Int32) (x2v : Int32) (x3v : Int32) (x4v : Int32) : Nat → Int32 → Mem → Option (Mem)
  | 0, _, _ => none
  | n + 1, x5v, μ =>
    if x2v ≤ x5v then
     (some μ)
    else
     (b1 (f_X5_goesUp (x4v + x5v) μ) fun μ3 =>
     lt (x5v + (1 : Int32)) fun x4 =>
     lp_X5_move_61 x1v x2v x3v x4v n x4 μ3)
def lp_X5_move_52 (x1v : Int32) (x2v : Int32) (x3v : Int32) : Nat → Int32 → Mem → Option (Mem)
  | 0, _, _ => none
  | n + 1, x4v, μ =>
    if x4v ≤ x3v then
     (some μ)
    else
     (b1 (lp_X5_move_61 x1v x2v x3v x4v FU (0 : Int32) μ) fun μ5 =>
     lt (x4v + (-1 : Int32)) fun x6 =>
     lp_X5_move_52 x1v x2v x3v n x6 μ5)
def lp_X5_move_100 (x2v : Int32) (x3v : Int32) (x4v : Int32) : Nat → Int32 → Mem → Option (Mem)
  | 0, _, _ => none
  | n + 1, x5v, μ =>
    if x5v ≤ 0 then
     (some μ)
    else
     (b1 (f_X5_goesUp (x4v + x5v) μ) fun μ8 =>
     lt (x5v + (-1 : Int32)) fun x9 =>
     lp_X5_move_100 x2v x3v x4v n x9 μ8)
def lp_X5_move_91 (x2v : Int32) (x3v : Int32) : Nat → Int32 → Mem → Option (Mem)
  | 0, _, _ => none
  | n + 1, x4v, μ =>
    if x3v ≤ x4v then
     (some μ)
    else
     (b1 (lp_X5_move_100 x2v x3v x4v FU x2v μ) fun μ10 =>
     lt (x4v + (1 : Int32)) fun x11 =>
     lp_X5_move_91 x2v x3v n x11 μ10)
def f_X5_move (a1 : Int32) (a2 : Int32) (a3 : Int32) (μ : Mem) : Option (Int32 × Mem) :=
  if (1 : Int32) ≤ a2 then
   (if a1 < 0 then
    (some ((-1 : Int32), μ))
   else
    (if μ 43 6 ≤ a1 then
     (some ((-1 : Int32), μ))
    else
     (if a2 ≤ (μ 43 6 - a1) then
      (b2 (f_X5_within a3 (0 : Int32) (μ 43 6 - a2) μ) fun x2 μ1 =>
      if x2 = 0 then
       (some ((-2 : Int32), μ1))
      else
       (b1 (lp_X5_move_52 a1 a2 a3 FU a1 μ1) fun μ7 =>
       b1 (lp_X5_move_91 a2 a3 FU a1 μ7) fun μ12 =>
       some (a2, μ12)))
     else
      (some ((-1 : Int32), μ)))))
  else
   (some ((-2 : Int32), μ))
def jn_X5_tellBest_52 (x1v : Int32) (x2v : Int32) (μ : Mem) : Option (Int32 × Mem) :=
  if x1v = 0 then
   (some (x2v, μ))
  else
   (if x1v = (2 : Int32) then
    (some (μ 43 24, μ))
   else
    (ck (inb (0 : Int32) 64) <|
    some (μ 56 (0 : Int32).toNatClampNeg, μ)))
def f_X5_tellBest (a1 : Int32) (μ : Mem) : Option (Int32 × Mem) :=
  b2 (f_X5_findBest μ) fun x2 μ1 =>
  if a1 = (4 : Int32) then
   (if x2 = (-9 : Int32) then
    (some ((0 : Int32), μ1))
   else
    (ck (inb (0 : Int32) 64) <|
    some (μ1 57 (0 : Int32).toNatClampNeg, μ1)))
  else
   (if x2 = (-9 : Int32) then
    (some ((-9 : Int32), μ1))
   else
    (if a1 = (3 : Int32) then
     (ck (inb (0 : Int32) 64) <|
     if μ1 56 (0 : Int32).toNatClampNeg < (99999 : Int32) then
      (jn_X5_tellBest_52 a1 x2 μ1)
     else
      (some ((-9 : Int32), μ1)))
    else
     (jn_X5_tellBest_52 a1 x2 μ1)))
def f_X5_best (a1 : Int32) (μ : Mem) : Option (Int32 × Mem) :=
  b2 (f_X5_within a1 (0 : Int32) (3 : Int32) μ) fun x2 μ1 =>
  if x2 = 0 then
   (some ((-2 : Int32), μ1))
  else
   (if μ1 43 5 = 0 then
    (some ((-3 : Int32), μ1))
   else
    (if a1 = (1 : Int32) then
     (b2 (f_X5_tellBest (2 : Int32) μ1) fun x10 μ9 =>
     some (x10, μ9))
    else
     (if a1 = (2 : Int32) then
      (b2 (f_X5_tellBest (3 : Int32) μ1) fun x8 μ7 =>
      some (x8, μ7))
     else
      (if a1 = (3 : Int32) then
       (b2 (f_X5_tellBest (4 : Int32) μ1) fun x6 μ5 =>
       some (x6, μ5))
      else
       (b2 (f_X5_tellBest (0 : Int32) μ1) fun x4 μ3 =>
       some (x4, μ3))))))
def f_X5_ofPair (a1 : Int32) (a2 : Int32) (μ : Mem) : Option (Int32 × Mem) :=
  b2 (f_X5_findBest μ) fun x2 μ1 =>
  if a1 < 0 then
   (some ((-1 : Int32), μ1))
  else
   (if a1 < μ1 43 24 then
    (if a2 = (0 : Int32) then
     (ck (inb a1 14) <|
     some (μ1 58 a1.toNatClampNeg, μ1))
    else
     (if a2 = (1 : Int32) then
      (ck (inb a1 14) <|
      some (μ1 59 a1.toNatClampNeg, μ1))
     else
      (if a2 = (2 : Int32) then
       (ck (inb a1 14) <|
       some (μ1 60 a1.toNatClampNeg, μ1))
      else
       (if a2 = (3 : Int32) then
        (ck (inb a1 14) <|
        ck (inb a1 14) <|
        ck (inb a1 14) <|
        b2 (f_X5_costOf (μ1 58 a1.toNatClampNeg) (μ1 59 a1.toNatClampNeg) (μ1 60 a1.toNatClampNeg) μ1) fun x4 μ3 =>
        some (x4, μ3))
       else
        (some ((-2 : Int32), μ1))))))
   else
    (some ((-1 : Int32), μ1)))
def jn_X5_cost_81 (x1v : Int32) (x2v : Int32) (x3v : Int32) (s0v : Int32) (μ : Mem) : Option (Int32 × Mem) :=
  if s0v = 0 then
   (some ((-1 : Int32), μ))
  else
   (b2 (f_X5_costOf x1v x2v x3v μ) fun x4 μ3 =>
   some (x4, μ3))
def jn_X5_cost_80 (x1v : Int32) (x2v : Int32) (x3v : Int32) (μ : Mem) : Option (Int32 × Mem) :=
  jn_X5_cost_81 x1v x2v x3v (0 : Int32) μ
def jn_X5_cost_76 (x1v : Int32) (x2v : Int32) (x3v : Int32) (μ : Mem) : Option (Int32 × Mem) :=
  jn_X5_cost_81 x1v x2v x3v (1 : Int32) μ
def jn_X5_cost_43 (x1v : Int32) (x2v : Int32) (x3v : Int32) (s0v : Int32) (μ : Mem) : Option (Int32 × Mem) :=
  if s0v = 0 then
   (jn_X5_cost_80 x1v x2v x3v μ)
  else
   (if x1v = (1 : Int32) then
    (jn_X5_cost_76 x1v x2v x3v μ)
   else
    (b2 (f_X5_isRight x3v μ) fun x6 μ5 =>
    if x6 = 0 then
     (jn_X5_cost_80 x1v x2v x3v μ5)
    else
     (b2 (f_X5_rightsOf x1v μ5) fun x8 μ7 =>
     if μ7 43 6 < (x3v + x8) then
      (jn_X5_cost_80 x1v x2v x3v μ7)
     else
      (jn_X5_cost_76 x1v x2v x3v μ7))))
def jn_X5_cost_38 (x1v : Int32) (x2v : Int32) (x3v : Int32) (μ : Mem) : Option (Int32 × Mem) :=
  jn_X5_cost_43 x1v x2v x3v (1 : Int32) μ
def jn_X5_cost_42 (x1v : Int32) (x2v : Int32) (x3v : Int32) (μ : Mem) : Option (Int32 × Mem) :=
  jn_X5_cost_43 x1v x2v x3v (0 : Int32) μ
def f_X5_cost (a1 : Int32) (a2 : Int32) (a3 : Int32) (μ : Mem) : Option (Int32 × Mem) :=
  b2 (f_X5_within a1 (0 : Int32) (4 : Int32) μ) fun x2 μ1 =>
  if x2 = 0 then
   (some ((-2 : Int32), μ1))
  else
   (if a1 = (2 : Int32) then
    (jn_X5_cost_38 a1 a2 a3 μ1)
   else
    (b2 (f_X5_isLeft a2 μ1) fun x10 μ9 =>
    if x10 = 0 then
     (jn_X5_cost_42 a1 a2 a3 μ9)
    else
     (b2 (f_X5_leftsOf a1 μ9) fun x12 μ11 =>
     if μ11 43 5 < (a2 + x12) then
      (jn_X5_cost_42 a1 a2 a3 μ11)
     else
      (jn_X5_cost_38 a1 a2 a3 μ11))))
def lp_X5_keep_2 : Nat → Int32 → Mem → Option (Mem)
  | 0, _, _ => none
  | n + 1, x1v, μ =>
    if (7 : Int32) ≤ x1v then
     (some μ)
    else
     (ck (inb x1v 7) <|
     ck (inb x1v 17) <|
     lt (up μ 61 x1v.toNatClampNeg (μ 48 x1v.toNatClampNeg)) fun μ1 =>
     ck (inb x1v 7) <|
     ck (inb ((7 : Int32) + x1v) 17) <|
     lt (up μ1 61 ((7 : Int32) + x1v).toNatClampNeg (μ1 50 x1v.toNatClampNeg)) fun μ2 =>
     lt (x1v + (1 : Int32)) fun x3 =>
     lp_X5_keep_2 n x3 μ2)
def f_X5_keep (μ : Mem) : Option (Mem) :=
  b1 (lp_X5_keep_2 FU (0 : Int32) μ) fun μ4 =>
  ck (inb (14 : Int32) 17) <|
  lt (up μ4 61 (14 : Int32).toNatClampNeg (μ4 43 7)) fun μ5 =>
  ck (inb (15 : Int32) 17) <|
  lt (up μ5 61 (15 : Int32).toNatClampNeg (μ5 43 8)) fun μ6 =>
  ck (inb (16 : Int32) 17) <|
  lt (up μ6 61 (16 : Int32).toNatClampNeg (μ6 43 9)) fun μ7 =>
  some μ7
def lp_X5_putBack_2 : Nat → Int32 → Mem → Option (Mem)
  | 0, _, _ => none
  | n + 1, x1v, μ =>
    if (7 : Int32) ≤ x1v then
     (some μ)
    else
     (ck (inb x1v 17) <|
     ck (inb x1v 7) <|
     lt (up μ 48 x1v.toNatClampNeg (μ 61 x1v.toNatClampNeg)) fun μ1 =>
     ck (inb ((7 : Int32) + x1v) 17) <|
     ck (inb x1v 7) <|
     lt (up μ1 50 x1v.toNatClampNeg (μ1 61 ((7 : Int32) + x1v).toNatClampNeg)) fun μ2 =>
     lt (x1v + (1 : Int32)) fun x3 =>
     lp_X5_putBack_2 n x3 μ2)
def f_X5_putBack (μ : Mem) : Option (Mem) :=
  b1 (lp_X5_putBack_2 FU (0 : Int32) μ) fun μ4 =>
  ck (inb (14 : Int32) 17) <|
  lt (up μ4 43 7 (μ4 61 (14 : Int32).toNatClampNeg)) fun μ5 =>
  ck (inb (15 : Int32) 17) <|
  lt (up μ5 43 8 (μ5 61 (15 : Int32).toNatClampNeg)) fun μ6 =>
  ck (inb (16 : Int32) 17) <|
  lt (up μ6 43 9 (μ6 61 (16 : Int32).toNatClampNeg)) fun μ7 =>
  some μ7
def jn_X5_does_92 (x1v : Int32) (x2v : Int32) (μ : Mem) : Option (Int32 × Mem) :=
  if x2v < (10 : Int32) then
   (ck (inb x2v 7) <|
   lt (up μ 48 x2v.toNatClampNeg x1v) fun μ3 =>
   some ((1 : Int32), μ3))
  else
   (ck (inb (x2v - (10 : Int32)) 7) <|
   lt (up μ 50 (x2v - (10 : Int32)).toNatClampNeg x1v) fun μ4 =>
   some ((1 : Int32), μ4))
def jn_X5_does_39 (x1v : Int32) (x2v : Int32) (s0v : Int32) (μ : Mem) : Option (Int32 × Mem) :=
  lt (up μ 43 8 s0v) fun μ8 =>
  if x2v = (22 : Int32) then
   (lt (up μ8 43 9 x1v) fun μ10 =>
   some ((1 : Int32), μ10))
  else
   (lt (up μ8 43 9 (μ8 43 9)) fun μ9 =>
   some ((1 : Int32), μ9))
def jn_X5_does_21 (x1v : Int32) (x2v : Int32) (s0v : Int32) (μ : Mem) : Option (Int32 × Mem) :=
  lt (up μ 43 7 s0v) fun μ7 =>
  if x2v = (21 : Int32) then
   (jn_X5_does_39 x1v x2v x1v μ7)
  else
   (jn_X5_does_39 x1v x2v (μ7 43 8) μ7)
def f_X5_does (a1 : Int32) (a2 : Int32) (μ : Mem) : Option (Int32 × Mem) :=
  if a2 < (20 : Int32) then
   (if a2 < (10 : Int32) then
    (b2 (f_X5_isLeft a2 μ) fun x2 μ1 =>
    if x2 = 0 then
     (some ((0 : Int32), μ1))
    else
     (jn_X5_does_92 a1 a2 μ1))
   else
    (b2 (f_X5_isRight (a2 - (10 : Int32)) μ) fun x6 μ5 =>
    if x6 = 0 then
     (some ((0 : Int32), μ5))
    else
     (jn_X5_does_92 a1 a2 μ5)))
  else
   (if a2 = (20 : Int32) then
    (jn_X5_does_21 a1 a2 a1 μ)
   else
    (jn_X5_does_21 a1 a2 (μ 43 7) μ))
def jn_X5_isPair_51 (x0v : Int32) (μ : Mem) : Option (Int32 × Mem) :=
  b2 (f_X5_within x0v (1 : Int32) (9 : Int32) μ) fun x6 μ5 =>
  if x6 = 0 then
   (some ((0 : Int32), μ5))
  else
   (some ((1 : Int32), μ5))
def f_X5_isPair (a0 : Int32) (a1 : Int32) (μ : Mem) : Option (Int32 × Mem) :=
  b2 (f_X5_within a1 (20 : Int32) (22 : Int32) μ) fun x2 μ1 =>
  if x2 = 0 then
   (b2 (f_X5_within a1 (0 : Int32) (6 : Int32) μ1) fun x4 μ3 =>
   if x4 = 0 then
    (b2 (f_X5_within a1 (10 : Int32) (16 : Int32) μ3) fun x8 μ7 =>
    if x8 = 0 then
     (some ((0 : Int32), μ7))
    else
     (jn_X5_isPair_51 a0 μ7))
   else
    (jn_X5_isPair_51 a0 μ3))
  else
   (if a1 = (22 : Int32) then
    (b2 (f_X5_within a0 (0 : Int32) (7 : Int32) μ1) fun x12 μ11 =>
    ck (bo x12) (some (x12, μ11)))
   else
    (b2 (f_X5_within a0 (0 : Int32) (9 : Int32) μ1) fun x10 μ9 =>
    ck (bo x10) (some (x10, μ9))))
def lp_X5_goDay_2 (x1v : Int32) (x2v : Int32) : Nat → Int32 → Mem → Option ((Mem) ⊕ (Int32 × Mem))
  | 0, _, _ => none
  | n + 1, x3v, μ =>
    if x2v ≤ x3v then
     (some (.inl μ))
    else
     (ck (inb (x1v + ((2 : Int32) * x3v)) 240) <|
     ck (inb ((x1v + ((2 : Int32) * x3v)) + (1 : Int32)) 240) <|
     b2 (f_X5_does (μ 46 (x1v + ((2 : Int32) * x3v)).toNatClampNeg) (μ 46 ((x1v + ((2 : Int32) * x3v)) + (1 : Int32)).toNatClampNeg) μ) fun x2 μ1 =>
     if x2 = 0 then
      (some (.inr (x3v, μ1)))
     else
      (lt (x3v + (1 : Int32)) fun x3 =>
      lp_X5_goDay_2 x1v x2v n x3 μ1))
def f_X5_goDay (a1 : Int32) (a2 : Int32) (μ : Mem) : Option (Int32 × Mem) :=
  s1 (lp_X5_goDay_2 a1 a2 FU (0 : Int32) μ) (fun μ4 =>
   some ((-9 : Int32), μ4)) (fun o => some o)
def f_X5_tellDay (a1 : Int32) (μ : Mem) : Option (Int32 × Mem) :=
  if (10 : Int32) ≤ a1 then
   (b2 (f_X5_findBest μ) fun x2 μ1 =>
   b2 (f_X5_isLeft (a1 - (10 : Int32)) μ1) fun x4 μ3 =>
   if x4 = 0 then
    (some ((-9 : Int32), μ3))
   else
    (b2 (f_X5_pairedWith (0 : Int32) (a1 - (10 : Int32)) μ3) fun x6 μ5 =>
    some (x6, μ5)))
  else
   (b2 (f_X5_tellBest a1 μ) fun x8 μ7 =>
   some (x8, μ7))
def lp_X5_day_103 (x4v : Int32) (x5v : Int32) (x7v : Int32) : Nat → Int32 → Mem → Option ((Mem) ⊕ (Int32 × Mem))
  | 0, _, _ => none
  | n + 1, x8v, μ =>
    if x4v ≤ x8v then
     (some (.inl μ))
    else
     (ck (inb (x7v + ((2 : Int32) * x8v)) 240) <|
     ck (inb ((x7v + ((2 : Int32) * x8v)) + (1 : Int32)) 240) <|
     b2 (f_X5_isPair (μ 46 (x7v + ((2 : Int32) * x8v)).toNatClampNeg) (μ 46 ((x7v + ((2 : Int32) * x8v)) + (1 : Int32)).toNatClampNeg) μ) fun x14 μ13 =>
     if x14 = 0 then
      (some (.inr ((-2 : Int32), μ13)))
     else
      (lt (x8v + (1 : Int32)) fun x15 =>
      lp_X5_day_103 x4v x5v x7v n x15 μ13))
def jn_X5_day_57 (x1v : Int32) (x2v : Int32) (x3v : Int32) (x4v : Int32) (x5v : Int32) (μ : Mem) : Option (Int32 × Mem) :=
  b2 (f_X5_against x1v x2v x3v ((2 : Int32) * x4v) μ) fun x11 μ10 =>
  if x11 = 0 then
   (if μ10 43 5 = 0 then
    (some ((-3 : Int32), μ10))
   else
    (lt (((60 : Int32) * x1v) + x3v) fun x12 =>
    s1 (lp_X5_day_103 x4v x5v x12 FU (0 : Int32) μ10) (fun μ16 =>
     b1 (f_X5_keep μ16) fun μ17 =>
     b2 (f_X5_goDay x12 x4v μ17) fun x19 μ18 =>
     b2 (f_X5_tellDay x5v μ18) fun x21 μ20 =>
     b1 (f_X5_putBack μ20) fun μ22 =>
     if x5v = (1 : Int32) then
      (some (x19, μ22))
     else
      (if x19 = (-9 : Int32) then
       (some (x21, μ22))
      else
       (some (((-100 : Int32) - x19), μ22)))) (fun o => some o)))
  else
   (b2 (f_X5_fails x11 μ10) fun x24 μ23 =>
   some (x24, μ23))
def f_X5_day (a1 : Int32) (a2 : Int32) (a3 : Int32) (a4 : Int32) (a5 : Int32) (μ : Mem) : Option (Int32 × Mem) :=
  lt (up μ 43 0 (0 : Int32)) fun μ1 =>
  b2 (f_X5_isSheet a1 μ1) fun x3 μ2 =>
  if x3 = 0 then
   (some ((-1 : Int32), μ2))
  else
   (b2 (f_X5_isSort a2 μ2) fun x5 μ4 =>
   if x5 = 0 then
    (some ((-2 : Int32), μ4))
   else
    (b2 (f_X5_within a4 (0 : Int32) (20 : Int32) μ4) fun x7 μ6 =>
    if x7 = 0 then
     (some ((-2 : Int32), μ6))
    else
     (b2 (f_X5_within a5 (0 : Int32) (4 : Int32) μ6) fun x9 μ8 =>
     if x9 = 0 then
      (b2 (f_X5_within a5 (10 : Int32) (16 : Int32) μ8) fun x26 μ25 =>
      if x26 = 0 then
       (some ((-2 : Int32), μ25))
      else
       (jn_X5_day_57 a1 a2 a3 a4 a5 μ25))
     else
      (jn_X5_day_57 a1 a2 a3 a4 a5 μ8))))
def f_X5_by (a1 : Int32) (μ : Mem) : Option (Int32 × Mem) :=
  b2 (f_X5_within a1 (0 : Int32) (7 : Int32) μ) fun x2 μ1 =>
  if x2 = 0 then
   (some ((-2 : Int32), μ1))
  else
   (if μ1 43 5 = 0 then
    (some ((-3 : Int32), μ1))
   else
    (b2 (f_X5_findAll a1 μ1) fun x4 μ3 =>
    some (x4, μ3)))
def lp_X5_enough_19 (x1v : Int32) : Nat → Int32 → Mem → Option (Int32 × Mem)
  | 0, _, _ => none
  | n + 1, x2v, μ =>
    b2 (f_X5_findAll x2v μ) fun x4 μ3 =>
    if x4 = x1v then
     (some (x2v, μ3))
    else
     (lt (x2v + (1 : Int32)) fun x5 =>
     lp_X5_enough_19 x1v n x5 μ3)
def f_X5_enough (μ : Mem) : Option (Int32 × Mem) :=
  if μ 43 5 = 0 then
   (some ((-3 : Int32), μ))
  else
   (b2 (f_X5_findAll (7 : Int32) μ) fun x2 μ1 =>
   b2 (lp_X5_enough_19 x2 FU (0 : Int32) μ1) fun x6 μ7 =>
   some (x6, μ7))
def jn_X5_reading_40 (x1v : Int32) (x2v : Int32) (μ : Mem) : Option (Int32 × Mem) :=
  if μ 43 29 = (8 : Int32) then
   (some ((-4 : Int32), μ))
  else
   (ck (inb (μ 43 29) 8) <|
   lt (up μ 62 (μ 43 29).toNatClampNeg x1v) fun μ3 =>
   ck (inb (μ3 43 29) 8) <|
   lt (up μ3 63 (μ3 43 29).toNatClampNeg x2v) fun μ4 =>
   lt (up μ4 43 29 (μ4 43 29 + (1 : Int32))) fun μ5 =>
   some ((μ5 43 29 - (1 : Int32)), μ5))
def f_X5_reading (a1 : Int32) (a2 : Int32) (μ : Mem) : Option (Int32 × Mem) :=
  if μ 43 5 = 0 then
   (some ((-3 : Int32), μ))
  else
   (b2 (f_X5_within a1 (0 : Int32) (7 : Int32) μ) fun x2 μ1 =>
   if x2 = 0 then
    (some ((-2 : Int32), μ1))
   else
    (if a2 = (-9 : Int32) then
     (jn_X5_reading_40 a1 a2 μ1)
    else
     (b2 (f_X5_within a2 (0 : Int32) (500 : Int32) μ1) fun x7 μ6 =>
     if x7 = 0 then
      (some ((-2 : Int32), μ6))
     else
      (jn_X5_reading_40 a1 a2 μ6))))
def f_X5_back (a1 : Int32) (μ : Mem) : Option (Int32 × Mem) :=
  b2 (f_X5_within a1 (0 : Int32) (μ 43 29) μ) fun x2 μ1 =>
  if x2 = 0 then
   (some ((-2 : Int32), μ1))
  else
   (lt (up μ1 43 29 (μ1 43 29 - a1)) fun μ3 =>
   some (μ3 43 29, μ3))
def lp_X5_areSo_2 : Nat → Int32 → Mem → Option ((Mem) ⊕ (Int32 × Mem))
  | 0, _, _ => none
  | n + 1, x1v, μ =>
    if μ 43 29 ≤ x1v then
     (some (.inl μ))
    else
     (ck (inb x1v 8) <|
     b2 (f_X5_findAll (μ 62 x1v.toNatClampNeg) μ) fun x2 μ1 =>
     ck (inb x1v 8) <|
     if x2 = μ1 63 x1v.toNatClampNeg then
      (lt (x1v + (1 : Int32)) fun x3 =>
      lp_X5_areSo_2 n x3 μ1)
     else
      (some (.inr ((0 : Int32), μ1))))
def f_X5_areSo (μ : Mem) : Option (Int32 × Mem) :=
  s1 (lp_X5_areSo_2 FU (0 : Int32) μ) (fun μ4 =>
   some ((1 : Int32), μ4)) (fun o => some o)
def lp_X5_kinds_22 (x1v : Int32) (x2v : Int32) : Nat → Int32 → Int32 → Mem → Option (Int32 × Mem)
  | 0, _, _, _ => none
  | n + 1, x3v, x4v, μ =>
    if (3 : Int32) ≤ x4v then
     (some (x3v, μ))
    else
     (ck (inb x1v 7) <|
     lt (up μ 47 x1v.toNatClampNeg x4v) fun μ4 =>
     b2 (f_X5_areSo μ4) fun x6 μ5 =>
     if x6 = 0 then
      (lt (x3v ||| (0 : Int32)) fun x7 =>
      lt (x4v + (1 : Int32)) fun x8 =>
      lp_X5_kinds_22 x1v x2v n x7 x8 μ5)
     else
      (lt (x3v ||| ((1 : Int32) <<< (x4v &&& 31))) fun x9 =>
      lt (x4v + (1 : Int32)) fun x10 =>
      lp_X5_kinds_22 x1v x2v n x9 x10 μ5))
def f_X5_kinds (a1 : Int32) (μ : Mem) : Option (Int32 × Mem) :=
  b2 (f_X5_isLeft a1 μ) fun x2 μ1 =>
  if x2 = 0 then
   (some ((-1 : Int32), μ1))
  else
   (ck (inb a1 7) <|
   lt (μ1 47 a1.toNatClampNeg) fun x3 =>
   b2 (lp_X5_kinds_22 a1 x3 FU (0 : Int32) (0 : Int32) μ1) fun x11 μ12 =>
   ck (inb a1 7) <|
   lt (up μ12 47 a1.toNatClampNeg x3) fun μ13 =>
   some (x11, μ13))
def lp_X5_letterings_22 (x1v : Int32) (x2v : Int32) : Nat → Int32 → Int32 → Mem → Option (Int32 × Mem)
  | 0, _, _, _ => none
  | n + 1, x3v, x4v, μ =>
    if (9 : Int32) < x4v then
     (some (x3v, μ))
    else
     (ck (inb x1v 7) <|
     lt (up μ 48 x1v.toNatClampNeg x4v) fun μ4 =>
     b2 (f_X5_areSo μ4) fun x6 μ5 =>
     if x6 = 0 then
      (lt (x3v ||| (0 : Int32)) fun x7 =>
      lt (x4v + (1 : Int32)) fun x8 =>
      lp_X5_letterings_22 x1v x2v n x7 x8 μ5)
     else
      (lt (x3v ||| ((1 : Int32) <<< (x4v &&& 31))) fun x9 =>
      lt (x4v + (1 : Int32)) fun x10 =>
      lp_X5_letterings_22 x1v x2v n x9 x10 μ5))
def f_X5_letterings (a1 : Int32) (μ : Mem) : Option (Int32 × Mem) :=
  b2 (f_X5_isLeft a1 μ) fun x2 μ1 =>
  if x2 = 0 then
   (some ((-1 : Int32), μ1))
  else
   (ck (inb a1 7) <|
   lt (μ1 48 a1.toNatClampNeg) fun x3 =>
   b2 (lp_X5_letterings_22 a1 x3 FU (0 : Int32) (1 : Int32) μ1) fun x11 μ12 =>
   ck (inb a1 7) <|
   lt (up μ12 48 a1.toNatClampNeg x3) fun μ13 =>
   some (x11, μ13))
def lp_X5_inLeastTerms_6 (x0v : Int64) (x2v : Int64) (x4v : Int32) : Nat → Int64 → Int64 → Mem → Option (Int64 × Mem)
  | 0, _, _, _ => none
  | n + 1, x5v, x7v, μ =>
    if (lg_cmp x7v (0 : Int64)) = 0 then
     (some (x5v, μ))
    else
     (ck (decide (¬ x7v = 0)) <|
     lt (x5v - x5v / x7v * x7v) fun x1 =>
     lp_X5_inLeastTerms_6 x0v x2v x4v n x7v x1 μ)
def f_X5_inLeastTerms (a0 : Int64) (a2 : Int64) (a4 : Int32) (μ : Mem) : Option (Int64 × Mem) :=
  b2 (lp_X5_inLeastTerms_6 a0 a2 a4 FU a0 a2 μ) fun x2 μ3 =>
  if a4 = 0 then
   (ck (decide (¬ x2 = 0)) <|
   some ((a0 / x2), μ3))
  else
   (ck (decide (¬ x2 = 0)) <|
   some ((a2 / x2), μ3))
def lp_X5_odds_43 (x1v : Int32) (x2v : Int32) : Nat → Int32 → Int32 → Mem → Option (Int32 × Mem)
  | 0, _, _, _ => none
  | n + 1, x3v, x4v, μ =>
    if μ 43 24 ≤ x4v then
     (some (x3v, μ))
    else
     (ck (inb x4v 14) <|
     if μ 58 x4v.toNatClampNeg = x1v then
      (lt (x3v + (1 : Int32)) fun x9 =>
      lt (x4v + (1 : Int32)) fun x10 =>
      lp_X5_odds_43 x1v x2v n x9 x10 μ)
     else
      (lt (x3v + (0 : Int32)) fun x7 =>
      lt (x4v + (1 : Int32)) fun x8 =>
      lp_X5_odds_43 x1v x2v n x7 x8 μ))
def f_X5_odds (a1 : Int32) (a2 : Int32) (μ : Mem) : Option (Int64 × Mem) :=
  b2 (f_X5_within a1 (0 : Int32) (4 : Int32) μ) fun x2 μ1 =>
  if x2 = 0 then
   (some ((-9223372036854775808 : Int64), μ1))
  else
   (b2 (f_X5_within a2 (0 : Int32) (1 : Int32) μ1) fun x4 μ3 =>
   if x4 = 0 then
    (some ((-9223372036854775808 : Int64), μ3))
   else
    (if μ3 43 5 = 0 then
     (some ((-9223372036854775808 : Int64), μ3))
    else
     (b2 (f_X5_findBest μ3) fun x6 μ5 =>
     if x6 = (-9 : Int32) then
      (some ((-9223372036854775808 : Int64), μ5))
     else
      (b2 (lp_X5_odds_43 a1 a2 FU (0 : Int32) (0 : Int32) μ5) fun x11 μ12 =>
      b2 (f_X5_inLeastTerms ((x11).toInt64) ((μ12 43 24).toInt64) a2 μ12) fun x14 μ13 =>
      some (x14, μ13)))))
def lp_X5_sheet_57 (x1v : Int32) : Nat → Int32 → Mem → Option (Mem)
  | 0, _, _ => none
  | n + 1, x4v, μ =>
    if (60 : Int32) ≤ x4v then
     (some μ)
    else
     (ck (inb (((60 : Int32) * x1v) + x4v) 240) <|
     lt (up μ 46 (((60 : Int32) * x1v) + x4v).toNatClampNeg (0 : Int32)) fun μ8 =>
     lt (x4v + (1 : Int32)) fun x9 =>
     lp_X5_sheet_57 x1v n x9 μ8)
def f_X5_sheet (a1 : Int32) (a2 : Int32) (a3 : Int32) (μ : Mem) : Option (Int32 × Mem) :=
  lt (up μ 43 0 (0 : Int32)) fun μ1 =>
  b2 (f_X5_isSheet a1 μ1) fun x3 μ2 =>
  if x3 = 0 then
   (some ((-1 : Int32), μ2))
  else
   (b2 (f_X5_isSort a2 μ2) fun x5 μ4 =>
   if x5 = 0 then
    (some ((-2 : Int32), μ4))
   else
    (if a3 ≤ (60 : Int32) then
     (if 0 ≤ a3 then
      (ck (inb a1 4) <|
      lt (up μ4 44 a1.toNatClampNeg a2) fun μ6 =>
      ck (inb a1 4) <|
      lt (up μ6 45 a1.toNatClampNeg a3) fun μ7 =>
      b1 (lp_X5_sheet_57 a1 FU (0 : Int32) μ7) fun μ10 =>
      some ((1 : Int32), μ10))
     else
      (b2 (f_X5_fails (4 : Int32) μ4) fun x12 μ11 =>
      some (x12, μ11)))
    else
     (some ((-2 : Int32), μ4))))
def jn_X5_lose_25 (x1v : Int32) (s0v : Int32) (μ : Mem) : Option (Int32 × Mem) :=
  ck (inb x1v 4) <|
  lt (up μ 44 x1v.toNatClampNeg (-9 : Int32)) fun μ3 =>
  some (s0v, μ3)
def f_X5_lose (a1 : Int32) (μ : Mem) : Option (Int32 × Mem) :=
  b2 (f_X5_isSheet a1 μ) fun x2 μ1 =>
  if x2 = 0 then
   (some ((-1 : Int32), μ1))
  else
   (ck (inb a1 4) <|
   if μ1 44 a1.toNatClampNeg = (-9 : Int32) then
    (jn_X5_lose_25 a1 (0 : Int32) μ1)
   else
    (jn_X5_lose_25 a1 (1 : Int32) μ1))
def f_X5_put (a1 : Int32) (a2 : Int32) (a3 : Int32) (μ : Mem) : Option (Int32 × Mem) :=
  lt (up μ 43 0 (0 : Int32)) fun μ1 =>
  b2 (f_X5_isSheet a1 μ1) fun x3 μ2 =>
  if x3 = 0 then
   (some ((-1 : Int32), μ2))
  else
   (ck (inb a1 4) <|
   if μ2 44 a1.toNatClampNeg = (-9 : Int32) then
    (b2 (f_X5_fails (1 : Int32) μ2) fun x12 μ11 =>
    some (x12, μ11))
   else
    (ck (inb a1 4) <|
    b2 (f_X5_within a2 (0 : Int32) (μ2 45 a1.toNatClampNeg - (1 : Int32)) μ2) fun x5 μ4 =>
    if x5 = 0 then
     (b2 (f_X5_fails (3 : Int32) μ4) fun x10 μ9 =>
     some (x10, μ9))
    else
     (ck (inb a1 4) <|
     if μ4 44 a1.toNatClampNeg = 0 then
      (ck (inb (((60 : Int32) * a1) + a2) 240) <|
      lt (up μ4 46 (((60 : Int32) * a1) + a2).toNatClampNeg ((a3).toInt8.toInt32)) fun μ8 =>
      some ((1 : Int32), μ8))
     else
      (ck (inb a1 4) <|
      if μ4 44 a1.toNatClampNeg = (1 : Int32) then
       (ck (inb (((60 : Int32) * a1) + a2) 240) <|
       lt (up μ4 46 (((60 : Int32) * a1) + a2).toNatClampNeg ((a3).toInt16.toInt32)) fun μ7 =>
       some ((1 : Int32), μ7))
      else
       (ck (inb (((60 : Int32) * a1) + a2) 240) <|
       lt (up μ4 46 (((60 : Int32) * a1) + a2).toNatClampNeg a3) fun μ6 =>
       some ((1 : Int32), μ6))))))
def jn_X5_cell_50 (x1v : Int32) (x2v : Int32) (μ : Mem) : Option (Int64 × Mem) :=
  ck (inb x1v 4) <|
  if μ 44 x1v.toNatClampNeg = (-9 : Int32) then
   (b2 (f_X5_lost (1 : Int32) μ) fun x11 μ10 =>
   some (x11, μ10))
  else
   (ck (inb x1v 4) <|
   b2 (f_X5_within x2v (0 : Int32) (μ 45 x1v.toNatClampNeg - (1 : Int32)) μ) fun x7 μ6 =>
   if x7 = 0 then
    (b2 (f_X5_lost (3 : Int32) μ6) fun x9 μ8 =>
    some (x9, μ8))
   else
    (ck (inb (((60 : Int32) * x1v) + x2v) 240) <|
    some ((μ6 46 (((60 : Int32) * x1v) + x2v).toNatClampNeg).toInt64, μ6)))
def f_X5_cell (a1 : Int32) (a2 : Int32) (a3 : Int32) (μ : Mem) : Option (Int64 × Mem) :=
  lt (up μ 43 0 (0 : Int32)) fun μ1 =>
  b2 (f_X5_isSheet a1 μ1) fun x3 μ2 =>
  if x3 = 0 then
   (some ((-9223372036854775808 : Int64), μ2))
  else
   (b2 (f_X5_isSort a3 μ2) fun x5 μ4 =>
   if x5 = 0 then
    (some ((-9223372036854775808 : Int64), μ4))
   else
    (ck (inb a1 4) <|
    if μ4 44 a1.toNatClampNeg = (-9 : Int32) then
     (jn_X5_cell_50 a1 a2 μ4)
    else
     (ck (inb a1 4) <|
     if μ4 44 a1.toNatClampNeg = a3 then
      (jn_X5_cell_50 a1 a2 μ4)
     else
      (b2 (f_X5_lost (2 : Int32) μ4) fun x13 μ12 =>
      some (x13, μ12)))))
def jn_X5_copy_190 (ih : Int32 → Mem → Option (Mem)) (x1v : Int32) (x2v : Int32) (x3v : Int32) (x4v : Int32) (x5v : Int32) (x7v : Int32) (x8v : Int32) (s0v : Int32) (μ : Mem) : Option (Mem) :=
  ck (inb ((((60 : Int32) * x1v) + x2v) + s0v) 240) <|
  ck (inb ((((60 : Int32) * x3v) + x4v) + s0v) 240) <|
  lt (up μ 46 ((((60 : Int32) * x3v) + x4v) + s0v).toNatClampNeg (μ 46 ((((60 : Int32) * x1v) + x2v) + s0v).toNatClampNeg)) fun μ12 =>
  lt (x8v + (1 : Int32)) fun x13 =>
  ih x13 μ12
def lp_X5_copy_166 (x1v : Int32) (x2v : Int32) (x3v : Int32) (x4v : Int32) (x5v : Int32) (x7v : Int32) : Nat → Int32 → Mem → Option (Mem)
  | 0, _, _ => none
  | n + 1, x8v, μ =>
    if x5v ≤ x8v then
     (some μ)
    else
     (if x7v = 0 then
      (jn_X5_copy_190 (lp_X5_copy_166 x1v x2v x3v x4v x5v x7v n) x1v x2v x3v x4v x5v x7v x8v x8v μ)
     else
      (jn_X5_copy_190 (lp_X5_copy_166 x1v x2v x3v x4v x5v x7v n) x1v x2v x3v x4v x5v x7v x8v ((x5v - (1 : Int32)) - x8v) μ))
def jn_X5_copy_161 (x1v : Int32) (x2v : Int32) (x3v : Int32) (x4v : Int32) (x5v : Int32) (s0v : Int32) (μ : Mem) : Option (Int32 × Mem) :=
  b1 (lp_X5_copy_166 x1v x2v x3v x4v x5v s0v FU (0 : Int32) μ) fun μ14 =>
  some (x5v, μ14)
def jn_X5_copy_110 (x1v : Int32) (x2v : Int32) (x3v : Int32) (x4v : Int32) (x5v : Int32) (s0v : Int32) (μ : Mem) : Option (Int32 × Mem) :=
  if s0v = 0 then
   (b2 (f_X5_fails (3 : Int32) μ) fun x9 μ8 =>
   some (x9, μ8))
  else
   (ck (inb x1v 4) <|
   if (μ 45 x1v.toNatClampNeg - x2v) < x5v then
    (b2 (f_X5_fails (3 : Int32) μ) fun x11 μ10 =>
    some (x11, μ10))
   else
    (ck (inb x3v 4) <|
    if x5v ≤ (μ 45 x3v.toNatClampNeg - x4v) then
     (if x4v ≤ x2v then
      (jn_X5_copy_161 x1v x2v x3v x4v x5v (0 : Int32) μ)
     else
      (jn_X5_copy_161 x1v x2v x3v x4v x5v (1 : Int32) μ))
    else
     (b2 (f_X5_fails (3 : Int32) μ) fun x16 μ15 =>
     some (x16, μ15))))
def jn_X5_copy_109 (x1v : Int32) (x2v : Int32) (x3v : Int32) (x4v : Int32) (x5v : Int32) (μ : Mem) : Option (Int32 × Mem) :=
  jn_X5_copy_110 x1v x2v x3v x4v x5v (0 : Int32) μ
def f_X5_copy (a1 : Int32) (a2 : Int32) (a3 : Int32) (a4 : Int32) (a5 : Int32) (μ : Mem) : Option (Int32 × Mem) :=
  lt (up μ 43 0 (0 : Int32)) fun μ1 =>
  b2 (f_X5_isSheet a1 μ1) fun x3 μ2 =>
  if x3 = 0 then
   (some ((-1 : Int32), μ2))
  else
   (b2 (f_X5_isSheet a3 μ2) fun x5 μ4 =>
   if x5 = 0 then
    (some ((-1 : Int32), μ4))
   else
    (ck (inb a1 4) <|
    if μ4 44 a1.toNatClampNeg = (-9 : Int32) then
     (b2 (f_X5_fails (1 : Int32) μ4) fun x7 μ6 =>
     some (x7, μ6))
    else
     (ck (inb a3 4) <|
     if μ4 44 a3.toNatClampNeg = (-9 : Int32) then
      (b2 (f_X5_fails (1 : Int32) μ4) fun x20 μ19 =>
      some (x20, μ19))
     else
      (ck (inb a1 4) <|
      ck (inb a3 4) <|
      if μ4 44 a1.toNatClampNeg = μ4 44 a3.toNatClampNeg then
       (if a2 < 0 then
        (jn_X5_copy_109 a1 a2 a3 a4 a5 μ4)
       else
        (if a4 < 0 then
         (jn_X5_copy_109 a1 a2 a3 a4 a5 μ4)
        else
         (if a5 < 0 then
          (jn_X5_copy_109 a1 a2 a3 a4 a5 μ4)
         else
          (ck (inb a1 4) <|
          if μ4 45 a1.toNatClampNeg < a2 then
           (jn_X5_copy_109 a1 a2 a3 a4 a5 μ4)
          else
           (ck (inb a3 4) <|
           if μ4 45 a3.toNatClampNeg < a4 then
            (jn_X5_copy_109 a1 a2 a3 a4 a5 μ4)
           else
            (jn_X5_copy_110 a1 a2 a3 a4 a5 (1 : Int32) μ4))))))
      else
       (b2 (f_X5_fails (2 : Int32) μ4) fun x18 μ17 =>
       some (x18, μ17))))))
def f_X5_begins (a1 : Int32) (μ : Mem) : Option (Mem) :=
  lt (up μ 43 1 (((31 : Int32) * μ 43 1) + a1)) fun μ1 =>
  some μ1
def f_X5_tell (a1 : Int32) (μ : Mem) : Option (Int32 × Mem) :=
  b2 (f_X5_isLeft a1 μ) fun x2 μ1 =>
  if x2 = 0 then
   (some ((-1 : Int32), μ1))
  else
   (ck (inb a1 7) <|
   lt (μ1 48 a1.toNatClampNeg) fun x3 =>
   ck (inb a1 7) <|
   lt (μ1 47 a1.toNatClampNeg) fun x4 =>
   if x4 = (1 : Int32) then
    (b1 (f_X5_begins (2 : Int32) μ1) fun μ5 =>
    b1 (f_X5_begins (1 : Int32) μ5) fun μ6 =>
    some ((x3 + (100 : Int32)), μ6))
   else
    (if x4 = (2 : Int32) then
     (b1 (f_X5_begins (3 : Int32) μ1) fun μ7 =>
     b1 (f_X5_begins (2 : Int32) μ7) fun μ8 =>
     b1 (f_X5_begins (1 : Int32) μ8) fun μ9 =>
     b1 (f_X5_begins (1 : Int32) μ9) fun μ10 =>
     some ((((2 : Int32) * x3) + (100 : Int32)), μ10))
    else
     (b1 (f_X5_begins (1 : Int32) μ1) fun μ11 =>
     some (x3, μ11))))
def jn_X5_read_25 (x1v : Int32) (μ : Mem) : Option (Int32 × Mem) :=
  b1 (f_X5_begins (4 : Int32) μ) fun μ3 =>
  ck (inb x1v 7) <|
  if μ3 47 x1v.toNatClampNeg = (2 : Int32) then
   (ck (inb x1v 7) <|
   some ((μ3 49 x1v.toNatClampNeg + (80 : Int32)), μ3))
  else
   (ck (inb x1v 7) <|
   some (μ3 49 x1v.toNatClampNeg, μ3))
def f_X5_read (a1 : Int32) (μ : Mem) : Option (Int32 × Mem) :=
  b2 (f_X5_isLeft a1 μ) fun x2 μ1 =>
  if x2 = 0 then
   (some ((-1 : Int32), μ1))
  else
   (ck (inb a1 7) <|
   if μ1 47 a1.toNatClampNeg = (2 : Int32) then
    (b1 (f_X5_begins (5 : Int32) μ1) fun μ4 =>
    jn_X5_read_25 a1 μ4)
   else
    (jn_X5_read_25 a1 μ1))
def f_X5_as (a1 : Int32) (a2 : Int32) (μ : Mem) : Option (Int32 × Mem) :=
  lt (up μ 43 0 (0 : Int32)) fun μ1 =>
  b2 (f_X5_isLeft a1 μ1) fun x3 μ2 =>
  if x3 = 0 then
   (some ((-1 : Int32), μ2))
  else
   (b2 (f_X5_within a2 (0 : Int32) (2 : Int32) μ2) fun x5 μ4 =>
   if x5 = 0 then
    (some ((-2 : Int32), μ4))
   else
    (ck (inb a1 7) <|
    if μ4 47 a1.toNatClampNeg < a2 then
     (b2 (f_X5_fails (2 : Int32) μ4) fun x7 μ6 =>
     some (x7, μ6))
    else
     (some ((1 : Int32), μ4))))
def f_X5_trace (μ : Mem) : Option (Int32 × Mem) :=
  some (μ 43 1, μ)
def f_X5_fault (μ : Mem) : Option (Int32 × Mem) :=
  some (μ 43 0, μ)
def f_X5_many (a1 : Int32) (μ : Mem) : Option (Int32 × Mem) :=
  if a1 = (0 : Int32) then
   (some (μ 43 5, μ))
  else
   (if a1 = (1 : Int32) then
    (some (μ 43 6, μ))
   else
    (if a1 = (2 : Int32) then
     (some (μ 43 7, μ))
    else
     (if a1 = (3 : Int32) then
      (some (μ 43 8, μ))
     else
      (if a1 = (4 : Int32) then
       (some (μ 43 9, μ))
      else
       (if a1 = (5 : Int32) then
        (some (μ 43 29, μ))
       else
        (some ((-2 : Int32), μ)))))))
