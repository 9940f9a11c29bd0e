/-! functions out of the bytecode, by program (wip/whole/tools/gen.py): what each method computes; none: an index outside its row, a divisor 0, or no end -/
def fX9_refuse (w : Wd) (a1 : Int32) : Option (Int32 × Wd) :=
  lt_ (-a1) fun (v1 : Int32) =>
  if v1 ≤ 0 then
    some (a1, w)
  else
    if (7 : Int32) ≤ v1 then
      some (a1, w)
    else
      gd_ (ib v1 7) <|
      lt_ (upI w 12 (v1.toNatClampNeg) ((w.1 12 v1.toNatClampNeg) + 1)) fun (w3 : Wd) =>
      some (a1, w3)
def fX3_isFull (w : Wd) : Int32 :=
  if (w.1 6 0) < 96 then
    (0 : Int32)
  else
    (1 : Int32)
def fX3_append (w : Wd) (a1 : Int32) : Option (Int32 × Wd) :=
  if (fX3_isFull w) = 0 then
    gd_ (ib (w.1 6 0) 96) <|
    lt_ (upI w 33 ((w.1 6 0).toNatClampNeg) a1) fun (w1 : Wd) =>
    lt_ (upI w1 6 0 ((w1.1 6 0) + 1)) fun (w3 : Wd) =>
    some (w3.1 6 0, w3)
  else
    some (w.1 6 0, w)
def fX9_feed_j28 (w1 : Wd) : Option (Int32 × Wd) :=
  (fX9_refuse w1 (-6)).bind fun q4 => un2 q4 fun (r3 : Int32) (w2 : Wd) =>
  some (r3, w2)
def fX9_feed (w : Wd) (a1 : Int32) : Option (Int32 × Wd) :=
  if (0 : Int32) ≤ a1 then
    if (255 : Int32) < a1 then
      fX9_feed_j28 w
    else
      if (fX3_isFull w) = 0 then
        (fX3_append w a1).bind fun q7 => un2 q7 fun (r6 : Int32) (w5 : Wd) =>
        some (r6, w5)
      else
        fX9_feed_j28 w
  else
    (fX9_refuse w (-4)).bind fun q10 => un2 q10 fun (r9 : Int32) (w8 : Wd) =>
    some (r9, w8)
def fX3_digitsBehind (a0 : Int32) : Int32 :=
  if a0 = 100 then
    (2 : Int32)
  else if a0 = 102 then
    (2 : Int32)
  else if a0 = 108 then
    (1 : Int32)
  else if a0 = 109 then
    (1 : Int32)
  else if a0 = 112 then
    (3 : Int32)
  else if a0 = 119 then
    (4 : Int32)
  else 
    ((-1) : Int32)
def fX3_textFault_b4 (w : Wd) (l1 : Int32) (l2 : Int32) : Option ((Int32 × Int32) ⊕ (Int32)) :=
  if (w.1 6 0) ≤ l2 then
    if (w.1 6 0) ≤ 0 then
      some (.inr ((-1000) - (w.1 6 0)))
    else
      if l1 = (-1) then
        some (.inr (0 : Int32))
      else
        some (.inr ((-1000) - (w.1 6 0)))
  else
    gd_ (ib l2 96) <|
    lt_ (w.1 33 l2.toNatClampNeg) fun (v4 : Int32) =>
    if l1 = (-1) then
      lt_ (fX3_digitsBehind v4) fun (v5 : Int32) =>
      if (0 : Int32) ≤ v5 then
        lt_ (l2 + 1) fun (v6 : Int32) =>
        some (.inl (v5, v6))
      else
        some (.inr ((-1000) - l2))
    else
      if l1 ≤ 0 then
        if v4 = 59 then
          lt_ (l2 + 1) fun (v7 : Int32) =>
          some (.inl ((-1), v7))
        else
          some (.inr ((-1000) - l2))
      else
        if v4 < 48 then
          some (.inr ((-1000) - l2))
        else
          if v4 ≤ 57 then
            lt_ (l1 + (-1)) fun (v8 : Int32) =>
            lt_ (l2 + 1) fun (v9 : Int32) =>
            some (.inl (v8, v9))
          else
            some (.inr ((-1000) - l2))
def fX3_textFault (w : Wd) : Option (Int32) :=
  iter (fun s : Int32 × Int32 => fX3_textFault_b4 w s.1 s.2) FU ((-1), 0)
def fX2_takeFrom (b : Nat) (b1 : Nat) (w : Wd) : Wd :=
  lt_ (upI w b 0 (w.1 b1 0)) fun (w1 : Wd) =>
  lt_ (upI w1 b 1 (w1.1 b1 1)) fun (w2 : Wd) =>
  lt_ (upI w2 b 2 (w2.1 b1 2)) fun (w3 : Wd) =>
  lt_ (upI w3 b 3 (w3.1 b1 3)) fun (w4 : Wd) =>
  lt_ (upI w4 b 4 (w4.1 b1 4)) fun (w5 : Wd) =>
  lt_ (upI w5 b 5 (w5.1 b1 5)) fun (w6 : Wd) =>
  lt_ (upI w6 b 6 (w6.1 b1 6)) fun (w7 : Wd) =>
  lt_ (upA w7 (9 + 4 * b) (va_cpy (w7.1 (9 + 4 * b1)) (w7.1 (9 + 4 * b)) 0 0 8)) fun (w8 : Wd) =>
  lt_ (upA w8 (10 + 4 * b) (va_cpy (w8.1 (10 + 4 * b1)) (w8.1 (10 + 4 * b)) 0 0 8)) fun (w9 : Wd) =>
  lt_ (upA w9 (11 + 4 * b) (va_cpy (w9.1 (11 + 4 * b1)) (w9.1 (11 + 4 * b)) 0 0 25)) fun (w10 : Wd) =>
  lt_ (upA w10 (12 + 4 * b) (va_cpy (w10.1 (12 + 4 * b1)) (w10.1 (12 + 4 * b)) 0 0 25)) fun (w11 : Wd) =>
  w11
def fX3_digitAt (w : Wd) (a1 : Int32) : Option (Int32) :=
  if a1 < 0 then
    some (0 : Int32)
  else
    if (w.1 6 0) ≤ a1 then
      some (0 : Int32)
    else
      gd_ (ib a1 96) <|
      some ((w.1 33 a1.toNatClampNeg) - 48)
def fX2_putLit_j26 (b : Nat) (w2 : Wd) (l1 : Int32) : Wd :=
  lt_ (upI w2 b 1 l1) fun (w3 : Wd) =>
  w3
def fX2_putLit (b : Nat) (w : Wd) (a1 : Int32) (a2 : Int32) : Wd :=
  if a2 = 0 then
    fX2_putLit_j26 b w ((w.1 b 1) &&& (((1 : Int32) <<< (a1 &&& 31)) ^^^ (-1)))
  else
    fX2_putLit_j26 b w ((w.1 b 1) ||| ((1 : Int32) <<< (a1 &&& 31)))
def fX2_append (b : Nat) (w : Wd) (a1 : Int32) (a2 : Int32) (a3 : Int32) : Option (Wd) :=
  if (8 : Int32) ≤ (w.1 b 0) then
    some w
  else
    gd_ (ib (w.1 b 0) 8) <|
    lt_ (upI w (9 + 4 * b) ((w.1 b 0).toNatClampNeg) a1) fun (w1 : Wd) =>
    gd_ (ib (w1.1 b 0) 8) <|
    lt_ (upI w1 (10 + 4 * b) ((w1.1 b 0).toNatClampNeg) a2) fun (w3 : Wd) =>
    lt_ (upI w3 b 0 ((w3.1 b 0) + 1)) fun (w5 : Wd) =>
    lt_ (fX2_putLit b w5 ((w5.1 b 0) - 1) a3) fun (w6 : Wd) =>
    some w6
def fX3_personComes (w : Wd) (a1 : Int32) (a2 : Int32) (a3 : Int32) : Option (Int32 × Wd) :=
  lt_ (if a1 = 6 then
    if a3 = 1 then
      (1 : Int32)
    else
      (0 : Int32)
  else
    (0 : Int32) : Int32) fun (v1 : Int32) =>
  if (6 : Int32) < a1 then
    some (0, w)
  else
    if (1 : Int32) < a3 then
      some (0, w)
    else
      if v1 = 0 then
        if (w.1 3 0) < 8 then
          lt_ (if a3 = 1 then
            (1 : Int32)
          else
            (0 : Int32) : Int32) fun (v2 : Int32) =>
          (fX2_append 3 w a1 a2 v2).bind fun (w3 : Wd) =>
          some (1, w3)
        else
          some (0, w)
      else
        some (0, w)
def fX3_twoDigitsAt (w : Wd) (a1 : Int32) : Option (Int32) :=
  (fX3_digitAt w a1).bind fun (r1 : Int32) =>
  (fX3_digitAt w (a1 + 1)).bind fun (r2 : Int32) =>
  some ((10 * r1) + r2)
def fX9_isOutside (a0 : Int32) (a1 : Int32) : Int32 :=
  if a0 < 0 then
    (1 : Int32)
  else
    if a0 ≤ a1 then
      (0 : Int32)
    else
      (1 : Int32)
def fX3_windComes (w : Wd) (a1 : Int32) (a2 : Int32) (a3 : Int32) : Option (Int32 × Wd) :=
  if (fX9_isOutside a1 24) = 0 then
    if a3 ≤ 2 then
      gd_ (ib a1 25) <|
      lt_ (upI w 23 (a1.toNatClampNeg) a2) fun (w1 : Wd) =>
      lt_ (upI w1 24 (a1.toNatClampNeg) a3) fun (w3 : Wd) =>
      some (1, w3)
    else
      some (0, w)
  else
    some (0, w)
def fX3_formComes (w : Wd) (a1 : Int32) (a2 : Int32) : Int32 × Wd :=
  if (2 : Int32) < a1 then
    (0, w)
  else
    if a2 < 1 then
      (0, w)
    else
      if a2 ≤ 2 then
        lt_ (upI w 3 2 a1) fun (w1 : Wd) =>
        lt_ (upI w1 3 3 a2) fun (w2 : Wd) =>
        (1, w2)
      else
        (0, w)
def fX3_doorComes (w : Wd) (a1 : Int32) : Int32 × Wd :=
  if a1 < 1 then
    (0, w)
  else
    if (24 : Int32) < a1 then
      (0, w)
    else
      if (w.1 3 5) ≤ a1 then
        lt_ (upI w 3 4 a1) fun (w1 : Wd) =>
        (1, w1)
      else
        (0, w)
def fX2_hasOne (b : Nat) (w : Wd) (a1 : Int32) : Int32 :=
  if a1 < 0 then
    (0 : Int32)
  else
    if (w.1 b 0) ≤ a1 then
      (0 : Int32)
    else
      (1 : Int32)
def fX2_isSmall (b : Nat) (w : Wd) (a1 : Int32) : Option (Int32) :=
  gd_ (ib a1 8) <|
  if (w.1 (9 + 4 * b) a1.toNatClampNeg) = 6 then
    some (1 : Int32)
  else
    some (0 : Int32)
def fX9_hasBit (a0 : Int32) (a1 : Int32) : Int32 :=
  if (a0 >>> (a1 &&& 31)) &&& 1 = 0 then
    (0 : Int32)
  else
    (1 : Int32)
def fX2_isLit (b : Nat) (w : Wd) (a1 : Int32) : Option (Int32) :=
  gd_ (bz (fX9_hasBit (w.1 b 1) a1)) <|
  some (fX9_hasBit (w.1 b 1) a1)
def fX3_lightComes (w : Wd) (a1 : Int32) : Option (Int32 × Wd) :=
  if (fX2_hasOne 3 w a1) = 0 then
    some (0, w)
  else
    (fX2_isSmall 3 w a1).bind fun (r1 : Int32) =>
    if r1 = 0 then
      (fX2_isLit 3 w a1).bind fun (r2 : Int32) =>
      lt_ (if r2 = 0 then
        (1 : Int32)
      else
        (0 : Int32) : Int32) fun (v3 : Int32) =>
      lt_ (fX2_putLit 3 w a1 v3) fun (w4 : Wd) =>
      some (1, w4)
    else
      some (0, w)
def fX2_isAtDoor (b : Nat) (w : Wd) : Int32 :=
  if (w.1 b 5) < (w.1 b 4) then
    (0 : Int32)
  else
    (1 : Int32)
def fX2_grownOnes_b4 (w : Wd) (b : Nat) (l1 : Int32) (l2 : Int32) : Option ((Int32 × Int32) ⊕ (Int32)) :=
  if (w.1 b 0) ≤ l2 then
    some (.inr l1)
  else
    (fX2_isSmall b w l2).bind fun (r4 : Int32) =>
    if r4 = 0 then
      lt_ (l1 ||| ((1 : Int32) <<< (l2 &&& 31))) fun (v5 : Int32) =>
      lt_ (l2 + 1) fun (v6 : Int32) =>
      some (.inl (v5, v6))
    else
      lt_ (l2 + 1) fun (v7 : Int32) =>
      some (.inl (l1, v7))
def fX2_grownOnes (b : Nat) (w : Wd) : Option (Int32) :=
  (iter (fun s : Int32 × Int32 => fX2_grownOnes_b4 w b s.1 s.2) FU (0, 0)).bind fun (l9 : Int32) =>
  some l9
def fX2_everybody (b : Nat) (w : Wd) : Int32 :=
  ((1 : Int32) <<< ((w.1 b 0) &&& 31)) - 1
def fX2_nearOnes_j77 (b : Nat) (w : Wd) (l5 : Int32) : Option (Int32) :=
  some (l5 &&& (fX2_everybody b w))
def fX2_nearOnes_j47 (b : Nat) (a1 : Int32) (w : Wd) (l2 : Int32) : Option (Int32) :=
  lt_ ((l2 <<< (1 &&& 31)) ||| (l2 >>> (1 &&& 31))) fun (v3 : Int32) =>
  if (w.1 b 2) = 2 then
    lt_ ((((1 : Int32) <<< ((a1 ^^^ 1) &&& 31)) ||| (l2 <<< (2 &&& 31))) ||| (l2 >>> (2 &&& 31))) fun (v4 : Int32) =>
    fX2_nearOnes_j77 b w v4
  else
    fX2_nearOnes_j77 b w v3
def fX2_nearOnes (b : Nat) (w : Wd) (a1 : Int32) : Option (Int32) :=
  lt_ ((1 : Int32) <<< (a1 &&& 31)) fun (v1 : Int32) =>
  if (w.1 b 2) = 1 then
    if (w.1 b 0) ≤ 1 then
      fX2_nearOnes_j47 b a1 w v1
    else
      gd_ (!((w.1 b 0) == 0)) <|
      some (((1 : Int32) <<< ((jrem ((a1 + (w.1 b 0)) - 1) (w.1 b 0)) &&& 31)) ||| ((1 : Int32) <<< ((jrem (a1 + 1) (w.1 b 0)) &&& 31)))
  else
    fX2_nearOnes_j47 b a1 w v1
def fX2_holdsOf (b : Nat) (w : Wd) (a1 : Int32) : Option (Int32) :=
  gd_ (ib a1 8) <|
  lt_ ((w.1 (10 + 4 * b) a1.toNatClampNeg) / 3) fun (v2 : Int32) =>
  lt_ (w.1 (9 + 4 * b) a1.toNatClampNeg) fun (v3 : Int32) =>
  if v3 = 0 then
    some (3 + v2)
  else if v3 = 1 then
    some (5 + v2)
  else if v3 = 3 then
    some (99 : Int32)
  else if v3 = 4 then
    some (2 + v2)
  else if v3 = 5 then
    some ((4 + v2) + ((w.1 (10 + 4 * b) a1.toNatClampNeg) / 2))
  else 
    some (4 + v2)
def fX2_coverer_j66 (b : Nat) (w : Wd) (l3 : Int32) : Option (Int32) :=
  if l3 < 0 then
    some ((-9) : Int32)
  else
    if (w.1 b 0) ≤ l3 then
      some ((-9) : Int32)
    else
      some l3
def fX2_coverer (b : Nat) (w : Wd) (a1 : Int32) (a2 : Int32) : Option (Int32) :=
  if a2 = 2 then
    some ((-9) : Int32)
  else
    lt_ (if (w.1 b 2) = 2 then
      (2 : Int32)
    else
      (1 : Int32) : Int32) fun (v1 : Int32) =>
    lt_ (if a2 = 0 then
      a1 - v1
    else
      a1 + v1 : Int32) fun (v2 : Int32) =>
    if (w.1 b 2) = 1 then
      if (w.1 b 0) ≤ 1 then
        fX2_coverer_j66 b w v2
      else
        gd_ (!((w.1 b 0) == 0)) <|
        some (jrem (v2 + (w.1 b 0)) (w.1 b 0))
    else
      fX2_coverer_j66 b w v2
def fX2_coverFor (b : Nat) (w : Wd) (a1 : Int32) (a2 : Int32) : Option (Int32) :=
  (fX2_coverer b w a1 a2).bind fun (r1 : Int32) =>
  if (0 : Int32) ≤ r1 then
    gd_ (ib r1 8) <|
    gd_ (ib (w.1 (9 + 4 * b) r1.toNatClampNeg) 7) <|
    some (covF (w.1 (9 + 4 * b) r1.toNatClampNeg).toNatClampNeg)
  else
    some (0 : Int32)
def fX8_unsteadyIn_b5 (w : Wd) (a2 : Int32) (a1 : Int32) (l1 : Int32) (l2 : Int32) : Option ((Int32 × Int32) ⊕ (Int32)) :=
  if (w.1 4 0) ≤ l2 then
    some (.inr l1)
  else
    gd_ (ib ((8 * a2) + l2) 24) <|
    if a1 ≤ (w.1 29 ((8 * a2) + l2).toNatClampNeg) then
      lt_ (l2 + 1) fun (v5 : Int32) =>
      some (.inl (l1, v5))
    else
      lt_ (l1 ||| ((1 : Int32) <<< (l2 &&& 31))) fun (v6 : Int32) =>
      lt_ (l2 + 1) fun (v7 : Int32) =>
      some (.inl (v6, v7))
def fX8_unsteadyIn (w : Wd) (a1 : Int32) (a2 : Int32) : Option (Int32) :=
  (iter (fun s : Int32 × Int32 => fX8_unsteadyIn_b5 w a2 a1 s.1 s.2) FU (0, 0)).bind fun (l9 : Int32) =>
  some l9
def fX8_setOut_b79 (b1 : Nat) (l7 : Int32) (r13 : Int32) (l14 : Int32) (w15 : Wd) : Option ((Int32 × Wd) ⊕ (Wd)) :=
  if (2 : Int32) < l14 then
    some (.inr w15)
  else
    (fX2_coverFor b1 w15 l7 l14).bind fun (r17 : Int32) =>
    gd_ (ib ((8 * l14) + l7) 24) <|
    lt_ (upI w15 29 (((8 * l14) + l7).toNatClampNeg) (r13 + r17)) fun (w18 : Wd) =>
    lt_ (l14 + 1) fun (v20 : Int32) =>
    some (.inl (v20, w18))
def fX8_setOut_b51 (b1 : Nat) (l7 : Int32) (w8 : Wd) : Option ((Int32 × Wd) ⊕ (Wd)) :=
  if (w8.1 4 0) ≤ l7 then
    some (.inr w8)
  else
    (fX2_nearOnes b1 w8 l7).bind fun (r10 : Int32) =>
    gd_ (ib l7 8) <|
    lt_ (upI w8 28 (l7.toNatClampNeg) r10) fun (w11 : Wd) =>
    (fX2_holdsOf b1 w11 l7).bind fun (r13 : Int32) =>
    (iter (fun s : Int32 × Wd => fX8_setOut_b79 b1 l7 r13 s.1 s.2) FU (0, w11)).bind fun (w22 : Wd) =>
    lt_ (l7 + 1) fun (v23 : Int32) =>
    some (.inl (v23, w22))
def fX8_setOut_b123 (b1 : Nat) (l27 : Int32) (w28 : Wd) : Option ((Int32 × Wd) ⊕ (Wd)) :=
  if (w28.1 b1 4) ≤ l27 then
    some (.inr w28)
  else
    gd_ (ib l27 25) <|
    (fX8_unsteadyIn w28 (w28.1 (11 + 4 * b1) l27.toNatClampNeg) (w28.1 (12 + 4 * b1) l27.toNatClampNeg)).bind fun (r31 : Int32) =>
    lt_ (upI w28 27 (l27.toNatClampNeg) r31) fun (w32 : Wd) =>
    lt_ (l27 + 1) fun (v33 : Int32) =>
    some (.inl (v33, w32))
def fX8_setOut (b1 : Nat) (w : Wd) : Option (Wd) :=
  lt_ (upI w 4 0 (w.1 b1 0)) fun (w1 : Wd) =>
  (fX2_grownOnes b1 w1).bind fun (r2 : Int32) =>
  lt_ (upI w1 4 1 r2) fun (w3 : Wd) =>
  lt_ (upI w3 4 2 (w3.1 b1 3)) fun (w4 : Wd) =>
  lt_ (upI w4 4 3 (w4.1 b1 5)) fun (w5 : Wd) =>
  lt_ (upI w5 4 4 (jmax 0 ((w5.1 b1 4) - (w5.1 b1 5)))) fun (w6 : Wd) =>
  (iter (fun s : Int32 × Wd => fX8_setOut_b51 b1 s.1 s.2) FU (0, w6)).bind fun (w25 : Wd) =>
  lt_ (w25.1 b1 5) fun (v26 : Int32) =>
  (iter (fun s : Int32 × Wd => fX8_setOut_b123 b1 s.1 s.2) FU (v26, w25)).bind fun (w35 : Wd) =>
  some w35
def fJ6_bitCount_0f7a4 (a0 : Int32) : Int32 :=
  lt_ (a0 - (((a0.toUInt32 >>> ((1 : Int32).toUInt32 &&& Int32.toUInt32 31)).toInt32) &&& 1431655765)) fun (v1 : Int32) =>
  lt_ ((v1 &&& 858993459) + (((v1.toUInt32 >>> ((2 : Int32).toUInt32 &&& Int32.toUInt32 31)).toInt32) &&& 858993459)) fun (v2 : Int32) =>
  lt_ ((v2 + ((v2.toUInt32 >>> ((4 : Int32).toUInt32 &&& Int32.toUInt32 31)).toInt32)) &&& 252645135) fun (v3 : Int32) =>
  lt_ (v3 + ((v3.toUInt32 >>> ((8 : Int32).toUInt32 &&& Int32.toUInt32 31)).toInt32)) fun (v4 : Int32) =>
  lt_ (v4 + ((v4.toUInt32 >>> ((16 : Int32).toUInt32 &&& Int32.toUInt32 31)).toInt32)) fun (v5 : Int32) =>
  v5 &&& 63
def fX8_relight_b51 (l2 : Int32) (l8 : Int32) (l9 : Int32) (w10 : Wd) : Option ((Int32 × Int32 × Wd) ⊕ (Wd)) :=
  if (w10.1 4 2) ≤ l9 then
    some (.inr w10)
  else
    if l8 = 0 then
      some (.inr w10)
    else
      lt_ (l8 &&& (-l8)) fun (v13 : Int32) =>
      gd_ (ib (fJ6_bitCount_0f7a4 (v13 - 1)) 8) <|
      lt_ (upI w10 25 ((fJ6_bitCount_0f7a4 (v13 - 1)).toNatClampNeg) l2) fun (w14 : Wd) =>
      lt_ (upI w14 4 6 ((w14.1 4 6) ||| v13)) fun (w16 : Wd) =>
      lt_ (l8 &&& (v13 ^^^ (-1))) fun (v17 : Int32) =>
      lt_ (l9 + 1) fun (v18 : Int32) =>
      some (.inl (v17, v18, w16))
def fX8_relight_b7 (a1 : Int32) (l2 : Int32) (w3 : Wd) : Option ((Int32 × Wd) ⊕ (Wd)) :=
  if (w3.1 4 0) ≤ l2 then
    some (.inr w3)
  else
    (if (fX9_hasBit a1 l2) = 0 then
      some (0 : Int32)
    else
      gd_ (ib l2 8) <|
      some (((w3.1 28 l2.toNatClampNeg) &&& (w3.1 4 1)) &&& ((a1 ||| (w3.1 4 6)) ^^^ (-1))) : Option Int32).bind fun (v6 : Int32) =>
    (iter (fun s : Int32 × Int32 × Wd => fX8_relight_b51 l2 s.1 s.2.1 s.2.2) FU (v6, 0, w3)).bind fun (w20 : Wd) =>
    lt_ (l2 + 1) fun (v21 : Int32) =>
    some (.inl (v21, w20))
def fX8_relight (w : Wd) (a1 : Int32) : Option (Int32 × Wd) :=
  lt_ (upI w 4 6 0) fun (w1 : Wd) =>
  (iter (fun s : Int32 × Wd => fX8_relight_b7 a1 s.1 s.2) FU (0, w1)).bind fun (w23 : Wd) =>
  some (a1 ||| (w23.1 4 6), w23)
def fX8_minuteAt (w : Wd) (a1 : Int32) (a2 : Int32) : Option (Int32 × Wd) :=
  gd_ (ib a1 25) <|
  lt_ (upI w 4 5 (a2 &&& (w.1 27 a1.toNatClampNeg))) fun (w2 : Wd) =>
  (fX8_relight w2 (a2 &&& ((w2.1 4 5) ^^^ (-1)))).bind fun q5 => un2 q5 fun (r4 : Int32) (w3 : Wd) =>
  some (r4, w3)
def fX8_passMinute (b1 : Nat) (w : Wd) (a2 : Int32) : Option (Wd) :=
  (fX8_setOut b1 w).bind fun (w1 : Wd) =>
  (fX8_minuteAt w1 (w1.1 b1 5) (w1.1 b1 1)).bind fun q4 => un2 q4 fun (r3 : Int32) (w2 : Wd) =>
  lt_ (upI w2 b1 1 r3) fun (w5 : Wd) =>
  lt_ (upI w5 b1 6 ((w5.1 b1 6) + 1)) fun (w6 : Wd) =>
  if a2 = 0 then
    lt_ (upI w6 b1 5 ((w6.1 b1 5) + 1)) fun (w7 : Wd) =>
    some w7
  else
    some w6
def fX3_comes (w : Wd) (a1 : Int32) : Option (Int32 × Wd) :=
  gd_ (ib a1 96) <|
  lt_ (w.1 33 a1.toNatClampNeg) fun (v2 : Int32) =>
  if v2 = 100 then
    (fX3_twoDigitsAt w (a1 + 1)).bind fun (r4 : Int32) =>
    un2 (fX3_doorComes w r4) fun (r6 : Int32) (w5 : Wd) =>
    gd_ (bz r6) <|
    some (r6, w5)
  else if v2 = 102 then
    (fX3_digitAt w (a1 + 1)).bind fun (r9 : Int32) =>
    (fX3_digitAt w (a1 + 2)).bind fun (r10 : Int32) =>
    un2 (fX3_formComes w r9 r10) fun (r12 : Int32) (w11 : Wd) =>
    gd_ (bz r12) <|
    some (r12, w11)
  else if v2 = 108 then
    (fX3_digitAt w (a1 + 1)).bind fun (r15 : Int32) =>
    (fX3_lightComes w r15).bind fun q18 => un2 q18 fun (r17 : Int32) (w16 : Wd) =>
    gd_ (bz r17) <|
    some (r17, w16)
  else if v2 = 112 then
    (fX3_digitAt w (a1 + 1)).bind fun (r21 : Int32) =>
    (fX3_digitAt w (a1 + 2)).bind fun (r22 : Int32) =>
    (fX3_digitAt w (a1 + 3)).bind fun (r23 : Int32) =>
    (fX3_personComes w r21 r22 r23).bind fun q26 => un2 q26 fun (r25 : Int32) (w24 : Wd) =>
    gd_ (bz r25) <|
    some (r25, w24)
  else if v2 = 119 then
    (fX3_twoDigitsAt w (a1 + 1)).bind fun (r29 : Int32) =>
    (fX3_digitAt w (a1 + 3)).bind fun (r30 : Int32) =>
    (fX3_digitAt w (a1 + 4)).bind fun (r31 : Int32) =>
    (fX3_windComes w r29 r30 r31).bind fun q34 => un2 q34 fun (r33 : Int32) (w32 : Wd) =>
    gd_ (bz r33) <|
    some (r33, w32)
  else 
    (fX3_digitAt w (a1 + 1)).bind fun (r36 : Int32) =>
    if (1 : Int32) < r36 then
      some (0, w)
    else
      if (fX2_isAtDoor 3 w) = 0 then
        if (w.1 3 6) < 999 then
          lt_ (if r36 = 1 then
            (1 : Int32)
          else
            (0 : Int32) : Int32) fun (v37 : Int32) =>
          (fX8_passMinute 3 w v37).bind fun (w38 : Wd) =>
          some (1, w38)
        else
          some (0, w)
      else
        some (0, w)
def fX3_comeTo_j67 (b1 : Nat) (w7 : Wd) (l6 : Int32) : Option (Int32 × Wd) :=
  lt_ (fX2_takeFrom b1 3 w7) fun (w8 : Wd) =>
  some (l6, w8)
def fX3_comeTo_b15 (b1 : Nat) (l2 : Int32) (l3 : Int32) (l4 : Int32) (w5 : Wd) : Option ((Int32 × Int32 × Int32 × Wd) ⊕ (Int32 × Wd)) :=
  if (96 : Int32) ≤ l4 then
    (fX3_comeTo_j67 b1 w5 l2).map Sum.inr
  else
    if (w5.1 6 0) ≤ l3 then
      (fX3_comeTo_j67 b1 w5 l2).map Sum.inr
    else
      (fX3_comes w5 l3).bind fun q13 => un2 q13 fun (r12 : Int32) (w11 : Wd) =>
      if r12 = 0 then
        some (.inr ((-2000) - l3, w11))
      else
        lt_ (l2 + 1) fun (v14 : Int32) =>
        gd_ (ib l3 96) <|
        lt_ (l3 + ((fX3_digitsBehind (w11.1 33 l3.toNatClampNeg)) + 2)) fun (v16 : Int32) =>
        lt_ (l4 + 1) fun (v17 : Int32) =>
        some (.inl (v14, v16, v17, w11))
def fX3_comeTo (b1 : Nat) (w : Wd) : Option (Int32 × Wd) :=
  lt_ (fX2_takeFrom 3 b1 w) fun (w1 : Wd) =>
  iter (fun s : Int32 × Int32 × Int32 × Wd => fX3_comeTo_b15 b1 s.1 s.2.1 s.2.2.1 s.2.2.2) FU (0, 0, 0, w1)
def fX5_forget (w : Wd) : Wd :=
  lt_ (upI w 5 0 0) fun (w1 : Wd) =>
  w1
def fX9_road_j35 (w8 : Wd) (l7 : Int32) : Option (Int32 × Wd) :=
  lt_ (upI w8 6 0 0) fun (w9 : Wd) =>
  some (l7, w9)
def fX9_road_j24 (w6 : Wd) (l5 : Int32) : Option (Int32 × Wd) :=
  if l5 < 0 then
    fX9_road_j35 w6 l5
  else
    lt_ (fX5_forget w6) fun (w10 : Wd) =>
    fX9_road_j35 w10 l5
def fX9_road (w : Wd) : Option (Int32 × Wd) :=
  (fX3_textFault w).bind fun (r1 : Int32) =>
  if r1 = 0 then
    (fX3_comeTo 1 w).bind fun q4 => un2 q4 fun (r3 : Int32) (w2 : Wd) =>
    fX9_road_j24 w2 r3
  else
    fX9_road_j24 w r1
def fX2_feltBy (b : Nat) (w : Wd) (a1 : Int32) (a2 : Int32) : Option (Int32) :=
  gd_ (ib a2 25) <|
  (fX2_coverFor b w a1 (w.1 (12 + 4 * b) a2.toNatClampNeg)).bind fun (r2 : Int32) =>
  some (jmax 0 ((w.1 (11 + 4 * b) a2.toNatClampNeg) - r2))
def fX2_tellOf (b : Nat) (w : Wd) (a1 : Int32) (a2 : Int32) : Option (Int32) :=
  if a2 = 0 then
    gd_ (ib a1 8) <|
    some (w.1 (9 + 4 * b) a1.toNatClampNeg)
  else if a2 = 1 then
    gd_ (ib a1 8) <|
    some (w.1 (10 + 4 * b) a1.toNatClampNeg)
  else if a2 = 2 then
    (fX2_isLit b w a1).bind fun (r6 : Int32) =>
    if r6 = 0 then
      some (0 : Int32)
    else
      some (1 : Int32)
  else if a2 = 3 then
    gd_ (ib a1 8) <|
    gd_ (ib (w.1 (9 + 4 * b) a1.toNatClampNeg) 7) <|
    some (covF (w.1 (9 + 4 * b) a1.toNatClampNeg).toNatClampNeg)
  else if a2 = 4 then
    (fX2_holdsOf b w a1).bind fun (r11 : Int32) =>
    some r11
  else if a2 = 5 then
    gd_ (ib a1 8) <|
    gd_ (ib (w.1 (9 + 4 * b) a1.toNatClampNeg) 7) <|
    some (givF (w.1 (9 + 4 * b) a1.toNatClampNeg).toNatClampNeg)
  else 
    (fX2_feltBy b w a1 (w.1 b 5)).bind fun (r15 : Int32) =>
    some r15
def fX9_person (w : Wd) (a1 : Int32) (a2 : Int32) : Option (Int32 × Wd) :=
  if (fX2_hasOne 1 w a1) = 0 then
    (fX9_refuse w (-1)).bind fun q3 => un2 q3 fun (r2 : Int32) (w1 : Wd) =>
    some (r2, w1)
  else
    if (fX9_isOutside a2 6) = 0 then
      (fX2_tellOf 1 w a1 a2).bind fun (r4 : Int32) =>
      some (r4, w)
    else
      (fX9_refuse w (-2)).bind fun q7 => un2 q7 fun (r6 : Int32) (w5 : Wd) =>
      some (r6, w5)
def fX9_light_j55 (a1 : Int32) (a2 : Int32) (w5 : Wd) : Option (Int32 × Wd) :=
  (fX2_isLit 1 w5 a1).bind fun (r6 : Int32) =>
  lt_ (if r6 = 0 then
    (0 : Int32)
  else
    (1 : Int32) : Int32) fun (v7 : Int32) =>
  lt_ (if a2 = 1 then
    (1 : Int32)
  else
    (0 : Int32) : Int32) fun (v8 : Int32) =>
  lt_ (fX2_putLit 1 w5 a1 v8) fun (w9 : Wd) =>
  lt_ (fX5_forget w9) fun (w10 : Wd) =>
  some (v7, w10)
def fX9_light (w : Wd) (a1 : Int32) (a2 : Int32) : Option (Int32 × Wd) :=
  if (fX2_hasOne 1 w a1) = 0 then
    (fX9_refuse w (-1)).bind fun q3 => un2 q3 fun (r2 : Int32) (w1 : Wd) =>
    some (r2, w1)
  else
    if (fX9_isOutside a2 1) = 0 then
      if a2 = 1 then
        (fX2_isSmall 1 w a1).bind fun (r4 : Int32) =>
        if r4 = 0 then
          fX9_light_j55 a1 a2 w
        else
          (fX9_refuse w (-3)).bind fun q13 => un2 q13 fun (r12 : Int32) (w11 : Wd) =>
          some (r12, w11)
      else
        fX9_light_j55 a1 a2 w
    else
      (fX9_refuse w (-2)).bind fun q16 => un2 q16 fun (r15 : Int32) (w14 : Wd) =>
      some (r15, w14)
def fX2_become (b : Nat) (w : Wd) (a1 : Int32) (a2 : Int32) : Option (Wd) :=
  gd_ (ib a1 8) <|
  lt_ (upI w (9 + 4 * b) (a1.toNatClampNeg) a2) fun (w1 : Wd) =>
  if a2 = 6 then
    lt_ (fX2_putLit b w1 a1 0) fun (w3 : Wd) =>
    some w3
  else
    some w1
def fX9_kind (w : Wd) (a1 : Int32) (a2 : Int32) (a3 : Int32) : Option (Int32 × Wd) :=
  if (fX2_hasOne 1 w a1) = 0 then
    (fX9_refuse w (-1)).bind fun q3 => un2 q3 fun (r2 : Int32) (w1 : Wd) =>
    some (r2, w1)
  else
    if (fX9_isOutside a2 6) = 0 then
      if (0 : Int32) ≤ a3 then
        if a3 ≤ 9 then
          gd_ (ib a1 8) <|
          lt_ ((10 * (w.1 13 a1.toNatClampNeg)) + (w.1 14 a1.toNatClampNeg)) fun (v5 : Int32) =>
          lt_ (upI w 14 (a1.toNatClampNeg) a3) fun (w6 : Wd) =>
          (fX2_become 1 w6 a1 a2).bind fun (w7 : Wd) =>
          lt_ (fX5_forget w7) fun (w8 : Wd) =>
          some (v5, w8)
        else
          (fX9_refuse w (-6)).bind fun q11 => un2 q11 fun (r10 : Int32) (w9 : Wd) =>
          some (r10, w9)
      else
        (fX9_refuse w (-4)).bind fun q14 => un2 q14 fun (r13 : Int32) (w12 : Wd) =>
        some (r13, w12)
    else
      (fX9_refuse w (-2)).bind fun q17 => un2 q17 fun (r16 : Int32) (w15 : Wd) =>
      some (r16, w15)
def fX9_wind (w : Wd) (a1 : Int32) (a2 : Int32) : Option (Int32 × Wd) :=
  if (fX9_isOutside a1 24) = 0 then
    if (fX9_isOutside a2 1) = 0 then
      if a2 = 0 then
        gd_ (ib a1 25) <|
        some (w.1 15 a1.toNatClampNeg, w)
      else
        gd_ (ib a1 25) <|
        some (w.1 16 a1.toNatClampNeg, w)
    else
      (fX9_refuse w (-2)).bind fun q5 => un2 q5 fun (r4 : Int32) (w3 : Wd) =>
      some (r4, w3)
  else
    (fX9_refuse w (-1)).bind fun q8 => un2 q8 fun (r7 : Int32) (w6 : Wd) =>
    some (r7, w6)
def fX9_blows_j23 (w1 : Wd) : Option (Int32 × Wd) :=
  (fX9_refuse w1 (-4)).bind fun q4 => un2 q4 fun (r3 : Int32) (w2 : Wd) =>
  some (r3, w2)
def fX9_blows_j41 (w5 : Wd) : Option (Int32 × Wd) :=
  (fX9_refuse w5 (-6)).bind fun q8 => un2 q8 fun (r7 : Int32) (w6 : Wd) =>
  some (r7, w6)
def fX9_blows (w : Wd) (a1 : Int32) (a2 : Int32) (a3 : Int32) : Option (Int32 × Wd) :=
  if (fX9_isOutside a1 24) = 0 then
    if a2 < 0 then
      fX9_blows_j23 w
    else
      if (0 : Int32) ≤ a3 then
        if (9 : Int32) < a2 then
          fX9_blows_j41 w
        else
          if a3 ≤ 2 then
            gd_ (ib a1 25) <|
            lt_ ((10 * (w.1 15 a1.toNatClampNeg)) + (w.1 16 a1.toNatClampNeg)) fun (v10 : Int32) =>
            lt_ (upI w 15 (a1.toNatClampNeg) a2) fun (w11 : Wd) =>
            lt_ (upI w11 16 (a1.toNatClampNeg) a3) fun (w12 : Wd) =>
            lt_ (fX5_forget w12) fun (w13 : Wd) =>
            some (v10, w13)
          else
            fX9_blows_j41 w
      else
        fX9_blows_j23 w
  else
    (fX9_refuse w (-1)).bind fun q16 => un2 q16 fun (r15 : Int32) (w14 : Wd) =>
    some (r15, w14)
def fX9_leastOf (a0 : Int32) : Int32 :=
  if a0 = 0 then
    (0 : Int32)
  else
    (1 : Int32)
def fX9_mostOf (a0 : Int32) : Int32 :=
  if a0 = 0 then
    (2 : Int32)
  else
    if a0 = 1 then
      (2 : Int32)
    else
      (24 : Int32)
def fX9_change (w : Wd) (a1 : Int32) (a2 : Int32) : Int32 × Wd :=
  if a1 = 0 then
    lt_ (w.1 1 2) fun (v1 : Int32) =>
    lt_ (upI w 1 2 a2) fun (w2 : Wd) =>
    (v1, w2)
  else
    if a1 = 1 then
      lt_ (w.1 1 3) fun (v3 : Int32) =>
      lt_ (upI w 1 3 a2) fun (w4 : Wd) =>
      (v3, w4)
    else
      lt_ (w.1 1 4) fun (v5 : Int32) =>
      lt_ (upI w 1 4 a2) fun (w6 : Wd) =>
      (v5, w6)
def fX9_set_j68 (a1 : Int32) (a2 : Int32) (w1 : Wd) : Option (Int32 × Wd) :=
  lt_ (fX5_forget w1) fun (w2 : Wd) =>
  un2 (fX9_change w2 a1 a2) fun (r4 : Int32) (w3 : Wd) =>
  some (r4, w3)
def fX9_set (w : Wd) (a1 : Int32) (a2 : Int32) : Option (Int32 × Wd) :=
  if (fX9_isOutside a1 2) = 0 then
    if (fX9_leastOf a1) ≤ a2 then
      if a2 ≤ (fX9_mostOf a1) then
        if a1 = 2 then
          if (w.1 1 5) ≤ a2 then
            fX9_set_j68 a1 a2 w
          else
            (fX9_refuse w (-3)).bind fun q7 => un2 q7 fun (r6 : Int32) (w5 : Wd) =>
            some (r6, w5)
        else
          fX9_set_j68 a1 a2 w
      else
        (fX9_refuse w (-6)).bind fun q10 => un2 q10 fun (r9 : Int32) (w8 : Wd) =>
        some (r9, w8)
    else
      (fX9_refuse w (-4)).bind fun q13 => un2 q13 fun (r12 : Int32) (w11 : Wd) =>
      some (r12, w11)
  else
    (fX9_refuse w (-2)).bind fun q16 => un2 q16 fun (r15 : Int32) (w14 : Wd) =>
    some (r15, w14)
def fX9_beside (w : Wd) (a1 : Int32) : Option (Int32 × Wd) :=
  if (fX2_hasOne 1 w a1) = 0 then
    (fX9_refuse w (-1)).bind fun q3 => un2 q3 fun (r2 : Int32) (w1 : Wd) =>
    some (r2, w1)
  else
    (fX2_nearOnes 1 w a1).bind fun (r4 : Int32) =>
    some (r4, w)
def fX9_covers_j20 (w1 : Wd) : Option (Int32 × Wd) :=
  (fX9_refuse w1 (-1)).bind fun q4 => un2 q4 fun (r3 : Int32) (w2 : Wd) =>
  some (r3, w2)
def fX9_covers (w : Wd) (a1 : Int32) (a2 : Int32) : Option (Int32 × Wd) :=
  if (fX2_hasOne 1 w a1) = 0 then
    fX9_covers_j20 w
  else
    if (fX9_isOutside a2 24) = 0 then
      gd_ (ib a2 25) <|
      (fX2_coverer 1 w a1 (w.1 16 a2.toNatClampNeg)).bind fun (r6 : Int32) =>
      some (r6, w)
    else
      fX9_covers_j20 w
def fX5_dropOldest_b2 (l1 : Int32) (w2 : Wd) : Option ((Int32 × Wd) ⊕ (Wd)) :=
  if (w2.1 5 0) ≤ l1 then
    some (.inr w2)
  else
    gd_ (ib l1 8) <|
    gd_ (ib (l1 - 1) 8) <|
    lt_ (upI w2 30 ((l1 - 1).toNatClampNeg) (w2.1 30 l1.toNatClampNeg)) fun (w5 : Wd) =>
    lt_ (upI w5 31 ((l1 - 1).toNatClampNeg) (w5.1 31 l1.toNatClampNeg)) fun (w7 : Wd) =>
    lt_ (upI w7 32 ((l1 - 1).toNatClampNeg) (w7.1 32 l1.toNatClampNeg)) fun (w8 : Wd) =>
    lt_ (l1 + 1) fun (v9 : Int32) =>
    some (.inl (v9, w8))
def fX5_dropOldest (w : Wd) : Option (Wd) :=
  (iter (fun s : Int32 × Wd => fX5_dropOldest_b2 s.1 s.2) FU (1, w)).bind fun (w11 : Wd) =>
  lt_ (upI w11 5 0 ((w11.1 5 0) - 1)) fun (w12 : Wd) =>
  some w12
def fX5_keep_j13 (b1 : Nat) (w2 : Wd) : Option (Wd) :=
  gd_ (ib (w2.1 5 0) 8) <|
  lt_ (upI w2 30 ((w2.1 5 0).toNatClampNeg) (w2.1 b1 1)) fun (w3 : Wd) =>
  gd_ (ib (w3.1 5 0) 8) <|
  lt_ (upI w3 31 ((w3.1 5 0).toNatClampNeg) (w3.1 b1 5)) fun (w5 : Wd) =>
  gd_ (ib (w5.1 5 0) 8) <|
  lt_ (upI w5 32 ((w5.1 5 0).toNatClampNeg) (w5.1 b1 6)) fun (w7 : Wd) =>
  lt_ (upI w7 5 0 ((w7.1 5 0) + 1)) fun (w9 : Wd) =>
  some w9
def fX5_keep (b1 : Nat) (w : Wd) : Option (Wd) :=
  if (w.1 5 0) = 8 then
    (fX5_dropOldest w).bind fun (w1 : Wd) =>
    fX5_keep_j13 b1 w1
  else
    fX5_keep_j13 b1 w
def fX9_go (w : Wd) (a1 : Int32) : Option (Int32 × Wd) :=
  if (fX9_isOutside a1 1) = 0 then
    if (fX2_isAtDoor 1 w) = 0 then
      if (w.1 1 6) < 999 then
        (fX5_keep 1 w).bind fun (w1 : Wd) =>
        lt_ (if a1 = 1 then
          (1 : Int32)
        else
          (0 : Int32) : Int32) fun (v2 : Int32) =>
        (fX8_passMinute 1 w1 v2).bind fun (w3 : Wd) =>
        some (fJ6_bitCount_0f7a4 (w3.1 1 1), w3)
      else
        (fX9_refuse w (-6)).bind fun q6 => un2 q6 fun (r5 : Int32) (w4 : Wd) =>
        some (r5, w4)
    else
      (fX9_refuse w (-3)).bind fun q9 => un2 q9 fun (r8 : Int32) (w7 : Wd) =>
      some (r8, w7)
  else
    (fX9_refuse w (-2)).bind fun q12 => un2 q12 fun (r11 : Int32) (w10 : Wd) =>
    some (r11, w10)
def fX9_lit (w : Wd) : Int32 :=
  w.1 1 1
def fX8_walkOn_b9 (l2 : Int32) (w3 : Wd) : Option ((Int32 × Wd) ⊕ (Wd)) :=
  if (w3.1 4 4) ≤ l2 then
    some (.inr w3)
  else
    gd_ (ib l2 25) <|
    (fX8_minuteAt w3 ((w3.1 4 3) + l2) (w3.1 26 l2.toNatClampNeg)).bind fun q8 => un2 q8 fun (r7 : Int32) (w6 : Wd) =>
    gd_ (ib (l2 + 1) 25) <|
    lt_ (upI w6 26 ((l2 + 1).toNatClampNeg) r7) fun (w9 : Wd) =>
    lt_ (l2 + 1) fun (v11 : Int32) =>
    some (.inl (v11, w9))
def fX8_walkOn (w : Wd) (a1 : Int32) : Option (Wd) :=
  lt_ (upI w 26 0 a1) fun (w1 : Wd) =>
  (iter (fun s : Int32 × Wd => fX8_walkOn_b9 s.1 s.2) FU (0, w1)).bind fun (w13 : Wd) =>
  some w13
def fX4_walkFromNow (w : Wd) : Option (Wd) :=
  (fX8_setOut 1 w).bind fun (w1 : Wd) =>
  (fX8_walkOn w1 (w1.1 1 1)).bind fun (w2 : Wd) =>
  some w2
def fX4_litBehind (w : Wd) (a1 : Int32) : Option (Int32 × Wd) :=
  (fX4_walkFromNow w).bind fun (w1 : Wd) =>
  gd_ (ib (jmin a1 (w1.1 4 4)) 25) <|
  some (w1.1 26 (jmin a1 (w1.1 4 4)).toNatClampNeg, w1)
def fX9_then (w : Wd) (a1 : Int32) : Option (Int32 × Wd) :=
  if (0 : Int32) ≤ a1 then
    if a1 ≤ 24 then
      (fX4_litBehind w a1).bind fun q3 => un2 q3 fun (r2 : Int32) (w1 : Wd) =>
      some (r2, w1)
    else
      (fX9_refuse w (-6)).bind fun q6 => un2 q6 fun (r5 : Int32) (w4 : Wd) =>
      some (r5, w4)
  else
    (fX9_refuse w (-4)).bind fun q9 => un2 q9 fun (r8 : Int32) (w7 : Wd) =>
    some (r8, w7)
def fX2_lightOf_b4 (w : Wd) (b : Nat) (a1 : Int32) (l1 : Int32) (l2 : Int32) : Option ((Int32 × Int32) ⊕ (Int32)) :=
  if (w.1 b 0) ≤ l2 then
    some (.inr l1)
  else
    if (fX9_hasBit a1 l2) = 0 then
      lt_ (l2 + 1) fun (v4 : Int32) =>
      some (.inl (l1, v4))
    else
      gd_ (ib l2 8) <|
      gd_ (ib (w.1 (9 + 4 * b) l2.toNatClampNeg) 7) <|
      lt_ (l1 + (givF (w.1 (9 + 4 * b) l2.toNatClampNeg).toNatClampNeg)) fun (v7 : Int32) =>
      lt_ (l2 + 1) fun (v8 : Int32) =>
      some (.inl (v7, v8))
def fX2_lightOf (b : Nat) (w : Wd) (a1 : Int32) : Option (Int32) :=
  (iter (fun s : Int32 × Int32 => fX2_lightOf_b4 w b a1 s.1 s.2) FU (0, 0)).bind fun (l10 : Int32) =>
  some l10
def fX9_door (w : Wd) (a1 : Int32) : Option (Int32 × Wd) :=
  if (fX9_isOutside a1 2) = 0 then
    (fX4_litBehind w 24).bind fun q3 => un2 q3 fun (r2 : Int32) (w1 : Wd) =>
    if a1 = 0 then
      some (r2, w1)
    else
      if a1 = 1 then
        some (fJ6_bitCount_0f7a4 r2, w1)
      else
        (fX2_lightOf 1 w1 r2).bind fun (r4 : Int32) =>
        some (r4, w1)
  else
    (fX9_refuse w (-2)).bind fun q7 => un2 q7 fun (r6 : Int32) (w5 : Wd) =>
    some (r6, w5)
def fX4_firstDark_b6 (w1 : Wd) (l2 : Int32) : Option ((Int32) ⊕ (Int32 × Wd)) :=
  if (w1.1 4 4) < l2 then
    some (.inr ((-9), w1))
  else
    gd_ (ib l2 25) <|
    if (w1.1 26 l2.toNatClampNeg) = 0 then
      some (.inr (l2, w1))
    else
      lt_ (l2 + 1) fun (v4 : Int32) =>
      some (.inl v4)
def fX4_firstDark (w : Wd) : Option (Int32 × Wd) :=
  (fX4_walkFromNow w).bind fun (w1 : Wd) =>
  iter (fun s : Int32 => fX4_firstDark_b6 w1 s) FU (0 : Int32)
def fX4_longestDark_b10 (w1 : Wd) (l2 : Int32) (l3 : Int32) (l4 : Int32) : Option ((Int32 × Int32 × Int32) ⊕ (Int32)) :=
  if (w1.1 4 4) < l4 then
    some (.inr l2)
  else
    gd_ (ib l4 25) <|
    lt_ (if (w1.1 26 l4.toNatClampNeg) = 0 then
      l3 + 1
    else
      (0 : Int32) : Int32) fun (v7 : Int32) =>
    lt_ (jmax l2 v7) fun (v8 : Int32) =>
    lt_ (l4 + 1) fun (v9 : Int32) =>
    some (.inl (v8, v7, v9))
def fX4_longestDark (w : Wd) : Option (Int32 × Wd) :=
  (fX4_walkFromNow w).bind fun (w1 : Wd) =>
  (iter (fun s : Int32 × Int32 × Int32 => fX4_longestDark_b10 w1 s.1 s.2.1 s.2.2) FU (0, 0, 1)).bind fun (l11 : Int32) =>
  some (l11, w1)
def fX9_dark (w : Wd) (a1 : Int32) : Option (Int32 × Wd) :=
  if (fX9_isOutside a1 1) = 0 then
    if a1 = 0 then
      (fX4_firstDark w).bind fun q3 => un2 q3 fun (r2 : Int32) (w1 : Wd) =>
      some (r2, w1)
    else
      (fX4_longestDark w).bind fun q6 => un2 q6 fun (r5 : Int32) (w4 : Wd) =>
      some (r5, w4)
  else
    (fX9_refuse w (-2)).bind fun q9 => un2 q9 fun (r8 : Int32) (w7 : Wd) =>
    some (r8, w7)
def fX4_darkEnds_b4 (w : Wd) (a1 : Int32) (l1 : Int32) (l2 : Int32) : Option ((Int32 × Int32) ⊕ (Int32)) :=
  if (w.1 4 4) < l2 then
    some (.inr l1)
  else
    gd_ (ib l2 25) <|
    if (fX9_hasBit (w.1 26 l2.toNatClampNeg) a1) = 0 then
      lt_ (l1 + 1) fun (v5 : Int32) =>
      lt_ (l2 + 1) fun (v6 : Int32) =>
      some (.inl (v5, v6))
    else
      lt_ (l2 + 1) fun (v7 : Int32) =>
      some (.inl (l1, v7))
def fX4_darkEnds (w : Wd) (a1 : Int32) : Option (Int32) :=
  (iter (fun s : Int32 × Int32 => fX4_darkEnds_b4 w a1 s.1 s.2) FU (0, 1)).bind fun (l9 : Int32) =>
  some l9
def fX4_darkMinutes (w : Wd) (a1 : Int32) : Option (Int32 × Wd) :=
  (fX4_walkFromNow w).bind fun (w1 : Wd) =>
  (fX4_darkEnds w1 a1).bind fun (r2 : Int32) =>
  some (r2, w1)
def fX9_darkFor (w : Wd) (a1 : Int32) : Option (Int32 × Wd) :=
  if (fX2_hasOne 1 w a1) = 0 then
    (fX9_refuse w (-1)).bind fun q3 => un2 q3 fun (r2 : Int32) (w1 : Wd) =>
    some (r2, w1)
  else
    (fX4_darkMinutes w a1).bind fun q6 => un2 q6 fun (r5 : Int32) (w4 : Wd) =>
    some (r5, w4)
def fX4_lastLighter_b39 (v3 : Int32) (a1 : Int32) (l4 : Int32) (l5 : Int32) (l6 : Int32) (w7 : Wd) : Option ((Int32 × Int32 × Int32 × Wd) ⊕ (Int32 × Wd)) :=
  if v3 ≤ l6 then
    some (.inr (l4, w7))
  else
    (fX8_minuteAt w7 ((w7.1 4 3) + l6) l5).bind fun q11 => un2 q11 fun (r10 : Int32) (w9 : Wd) =>
    if (fX9_hasBit (w9.1 4 6) a1) = 0 then
      lt_ (l6 + 1) fun (v12 : Int32) =>
      some (.inl (l4, r10, v12, w9))
    else
      gd_ (ib a1 8) <|
      lt_ (w9.1 25 a1.toNatClampNeg) fun (v14 : Int32) =>
      lt_ (l6 + 1) fun (v15 : Int32) =>
      some (.inl (v14, r10, v15, w9))
def fX4_lastLighter (w : Wd) (a1 : Int32) (a2 : Int32) : Option (Int32 × Wd) :=
  (fX8_setOut 1 w).bind fun (w1 : Wd) =>
  lt_ (w1.1 1 1) fun (v2 : Int32) =>
  lt_ (jmin a2 (w1.1 4 4)) fun (v3 : Int32) =>
  (iter (fun s : Int32 × Int32 × Int32 × Wd => fX4_lastLighter_b39 v3 a1 s.1 s.2.1 s.2.2.1 s.2.2.2) FU ((-9), v2, 0, w1)).bind fun x16 => un2 x16 fun (l17 : Int32) (w18 : Wd) =>
  some (l17, w18)
def fX9_litBy (w : Wd) (a1 : Int32) (a2 : Int32) : Option (Int32 × Wd) :=
  if (fX2_hasOne 1 w a1) = 0 then
    (fX9_refuse w (-1)).bind fun q3 => un2 q3 fun (r2 : Int32) (w1 : Wd) =>
    some (r2, w1)
  else
    if (0 : Int32) ≤ a2 then
      if a2 ≤ 24 then
        (fX4_lastLighter w a1 a2).bind fun q6 => un2 q6 fun (r5 : Int32) (w4 : Wd) =>
        some (r5, w4)
      else
        (fX9_refuse w (-6)).bind fun q9 => un2 q9 fun (r8 : Int32) (w7 : Wd) =>
        some (r8, w7)
    else
      (fX9_refuse w (-4)).bind fun q12 => un2 q12 fun (r11 : Int32) (w10 : Wd) =>
      some (r11, w10)
def fX6_startFromNow (w : Wd) : Option (Int32 × Wd) :=
  (fX8_setOut 1 w).bind fun (w1 : Wd) =>
  (fX8_walkOn w1 (w1.1 1 1)).bind fun (w2 : Wd) =>
  gd_ (ib (w2.1 4 4) 25) <|
  some (fJ6_bitCount_0f7a4 (w2.1 26 (w2.1 4 4).toNatClampNeg), w2)
def fX8_atDoorFrom_b5 (l1 : Int32) (l2 : Int32) (w3 : Wd) : Option ((Int32 × Int32 × Wd) ⊕ (Int32 × Wd)) :=
  if (w3.1 4 4) ≤ l2 then
    some (.inr (l1, w3))
  else
    if l1 = 0 then
      some (.inr (l1, w3))
    else
      gd_ (ib ((w3.1 4 3) + l2) 25) <|
      (fX8_relight w3 (l1 &&& ((w3.1 27 ((w3.1 4 3) + l2).toNatClampNeg) ^^^ (-1)))).bind fun q9 => un2 q9 fun (r8 : Int32) (w7 : Wd) =>
      lt_ (l2 + 1) fun (v10 : Int32) =>
      some (.inl (r8, v10, w7))
def fX8_atDoorFrom (w : Wd) (a1 : Int32) (a2 : Int32) : Option (Int32 × Wd) :=
  (iter (fun s : Int32 × Int32 × Wd => fX8_atDoorFrom_b5 s.1 s.2.1 s.2.2) FU (a2, a1, w)).bind fun x11 => un2 x11 fun (l12 : Int32) (w13 : Wd) =>
  some (l12, w13)
def fX6_withStop_b13 (a2 : Int32) (a1 : Int32) (l3 : Int32) (l4 : Int32) (w5 : Wd) : Option ((Int32 × Int32 × Wd) ⊕ (Int32 × Wd)) :=
  if a2 ≤ l4 then
    some (.inr (l3, w5))
  else
    (fX8_minuteAt w5 ((w5.1 4 3) + a1) l3).bind fun q9 => un2 q9 fun (r8 : Int32) (w7 : Wd) =>
    lt_ (l4 + 1) fun (v10 : Int32) =>
    some (.inl (r8, v10, w7))
def fX6_withStop (w : Wd) (a1 : Int32) (a2 : Int32) : Option (Int32 × Wd) :=
  gd_ (ib a1 25) <|
  lt_ (w.1 26 a1.toNatClampNeg) fun (v2 : Int32) =>
  (iter (fun s : Int32 × Int32 × Wd => fX6_withStop_b13 a2 a1 s.1 s.2.1 s.2.2) FU (v2, 0, w)).bind fun x11 => un2 x11 fun (l12 : Int32) (w13 : Wd) =>
  (fX8_atDoorFrom w13 a1 l12).bind fun q16 => un2 q16 fun (r15 : Int32) (w14 : Wd) =>
  some (r15, w14)
def fX6_bestStop_b18 (l6 : Int32) (l9 : Int32) (l10 : Int32) (l11 : Int32) (w12 : Wd) : Option ((Int32 × Int32 × Int32 × Wd) ⊕ (Int32 × Int32 × Wd)) :=
  if (w12.1 4 4) ≤ l11 then
    some (.inr (l9, l10, w12))
  else
    (fX6_withStop w12 l11 l6).bind fun q16 => un2 q16 fun (r15 : Int32) (w14 : Wd) =>
    lt_ (fJ6_bitCount_0f7a4 r15) fun (v17 : Int32) =>
    if v17 ≤ l9 then
      lt_ (l11 + 1) fun (v18 : Int32) =>
      some (.inl (l9, l10, v18, w14))
    else
      lt_ ((10 * ((w14.1 4 3) + l11)) + l6) fun (v19 : Int32) =>
      lt_ (l11 + 1) fun (v20 : Int32) =>
      some (.inl (v17, v19, v20, w14))
def fX6_bestStop_b10 (l4 : Int32) (l5 : Int32) (l6 : Int32) (w7 : Wd) : Option ((Int32 × Int32 × Int32 × Wd) ⊕ (Int32 × Wd)) :=
  if (5 : Int32) < l6 then
    some (.inr (l5, w7))
  else
    (iter (fun s : Int32 × Int32 × Int32 × Wd => fX6_bestStop_b18 l6 s.1 s.2.1 s.2.2.1 s.2.2.2) FU (l4, l5, 0, w7)).bind fun x21 => un3 x21 fun (l22 : Int32) (l23 : Int32) (w24 : Wd) =>
    lt_ (l6 + 1) fun (v25 : Int32) =>
    some (.inl (l22, l23, v25, w24))
def fX6_bestStop (w : Wd) : Option (Int32 × Wd) :=
  (fX6_startFromNow w).bind fun q3 => un2 q3 fun (r2 : Int32) (w1 : Wd) =>
  (iter (fun s : Int32 × Int32 × Int32 × Wd => fX6_bestStop_b10 s.1 s.2.1 s.2.2.1 s.2.2.2) FU (r2, (-9), 1, w1)).bind fun x26 => un2 x26 fun (l27 : Int32) (w28 : Wd) =>
  some (l27, w28)
def fX9_stop (w : Wd) : Option (Int32 × Wd) :=
  (fX6_bestStop w).bind fun q3 => un2 q3 fun (r2 : Int32) (w1 : Wd) =>
  some (r2, w1)
def fX1_doorOf (b1 : Nat) (w : Wd) : Option (Int32 × Wd) :=
  (fX8_setOut b1 w).bind fun (w1 : Wd) =>
  (fX8_atDoorFrom w1 0 (w1.1 b1 1)).bind fun q4 => un2 q4 fun (r3 : Int32) (w2 : Wd) =>
  some (r3, w2)
def fX1_startSearch (w : Wd) (a1 : Int32) : Wd :=
  lt_ (upI w 10 0 (-9)) fun (w1 : Wd) =>
  lt_ (upI w1 10 1 a1) fun (w2 : Wd) =>
  w2
def fX1_consider (w : Wd) (a1 : Int32) (a2 : Int32) : Wd :=
  if a2 ≤ (w.1 10 1) then
    w
  else
    lt_ (upI w 10 1 a2) fun (w1 : Wd) =>
    lt_ (upI w1 10 0 a1) fun (w2 : Wd) =>
    w2
def fX1_lowered_b21 (l6 : Int32) (w7 : Wd) : Option ((Int32 × Wd) ⊕ (Wd)) :=
  if (w7.1 1 0) ≤ l6 then
    some (.inr w7)
  else
    lt_ (fX2_takeFrom 3 1 w7) fun (w9 : Wd) =>
    (fX2_become 3 w9 l6 2).bind fun (w10 : Wd) =>
    (fX1_doorOf 3 w10).bind fun q13 => un2 q13 fun (r12 : Int32) (w11 : Wd) =>
    (fX2_lightOf 3 w11 r12).bind fun (r14 : Int32) =>
    lt_ (fX1_consider w11 l6 r14) fun (w15 : Wd) =>
    lt_ (l6 + 1) fun (v16 : Int32) =>
    some (.inl (v16, w15))
def fX1_lowered (w : Wd) : Option (Int32 × Wd) :=
  (fX1_doorOf 1 w).bind fun q3 => un2 q3 fun (r2 : Int32) (w1 : Wd) =>
  (fX2_lightOf 1 w1 r2).bind fun (r4 : Int32) =>
  lt_ (fX1_startSearch w1 r4) fun (w5 : Wd) =>
  (iter (fun s : Int32 × Wd => fX1_lowered_b21 s.1 s.2) FU (0, w5)).bind fun (w18 : Wd) =>
  some (w18.1 10 0, w18)
def fX9_lower (w : Wd) : Option (Int32 × Wd) :=
  (fX1_lowered w).bind fun q3 => un2 q3 fun (r2 : Int32) (w1 : Wd) =>
  some (r2, w1)
def fX1_countOf (b1 : Nat) (w : Wd) : Option (Int32 × Wd) :=
  (fX8_setOut b1 w).bind fun (w1 : Wd) =>
  (fX8_atDoorFrom w1 0 (w1.1 b1 1)).bind fun q4 => un2 q4 fun (r3 : Int32) (w2 : Wd) =>
  some (fJ6_bitCount_0f7a4 r3, w2)
def fX2_copyOne (b : Nat) (b2 : Nat) (w : Wd) (a1 : Int32) (a3 : Int32) : Option (Wd) :=
  if (fX2_hasOne b w a1) = 0 then
    some w
  else
    if (fX2_hasOne b2 w a3) = 0 then
      some w
    else
      gd_ (ib a3 8) <|
      gd_ (ib a1 8) <|
      lt_ (upI w (9 + 4 * b) (a1.toNatClampNeg) (w.1 (9 + 4 * b2) a3.toNatClampNeg)) fun (w2 : Wd) =>
      lt_ (upI w2 (10 + 4 * b) (a1.toNatClampNeg) (w2.1 (10 + 4 * b2) a3.toNatClampNeg)) fun (w4 : Wd) =>
      (fX2_isLit b2 w4 a3).bind fun (r5 : Int32) =>
      lt_ (fX2_putLit b w4 a1 r5) fun (w6 : Wd) =>
      some w6
def fX1_exchanged_b29 (l5 : Int32) (l9 : Int32) (w10 : Wd) : Option ((Int32 × Wd) ⊕ (Wd)) :=
  if (w10.1 1 0) ≤ l9 then
    some (.inr w10)
  else
    lt_ (fX2_takeFrom 3 1 w10) fun (w12 : Wd) =>
    (fX2_copyOne 3 1 w12 l5 l9).bind fun (w13 : Wd) =>
    (fX2_copyOne 3 1 w13 l9 l5).bind fun (w14 : Wd) =>
    (fX1_countOf 3 w14).bind fun q17 => un2 q17 fun (r16 : Int32) (w15 : Wd) =>
    lt_ (fX1_consider w15 ((10 * l5) + l9) r16) fun (w18 : Wd) =>
    lt_ (l9 + 1) fun (v19 : Int32) =>
    some (.inl (v19, w18))
def fX1_exchanged_b14 (l5 : Int32) (w6 : Wd) : Option ((Int32 × Wd) ⊕ (Wd)) :=
  if (w6.1 1 0) ≤ l5 then
    some (.inr w6)
  else
    lt_ (l5 + 1) fun (v8 : Int32) =>
    (iter (fun s : Int32 × Wd => fX1_exchanged_b29 l5 s.1 s.2) FU (v8, w6)).bind fun (w21 : Wd) =>
    lt_ (l5 + 1) fun (v22 : Int32) =>
    some (.inl (v22, w21))
def fX1_exchanged (w : Wd) : Option (Int32 × Wd) :=
  (fX1_countOf 1 w).bind fun q3 => un2 q3 fun (r2 : Int32) (w1 : Wd) =>
  lt_ (fX1_startSearch w1 r2) fun (w4 : Wd) =>
  (iter (fun s : Int32 × Wd => fX1_exchanged_b14 s.1 s.2) FU (0, w4)).bind fun (w24 : Wd) =>
  some (w24.1 10 0, w24)
def fX9_changed (w : Wd) : Option (Int32 × Wd) :=
  (fX1_exchanged w).bind fun q3 => un2 q3 fun (r2 : Int32) (w1 : Wd) =>
  some (r2, w1)
def fX1_orderAsDigits_b6 (w : Wd) (l2 : Int32) (l3 : Int32) : Option ((Int32 × Int32) ⊕ (Int32)) :=
  if l3 < 0 then
    some (.inr l2)
  else
    gd_ (ib l3 6) <|
    lt_ ((10 * l2) + (w.1 37 l3.toNatClampNeg)) fun (v6 : Int32) =>
    lt_ (l3 + (-1)) fun (v7 : Int32) =>
    some (.inl (v6, v7))
def fX1_orderAsDigits (w : Wd) (a1 : Int32) : Option (Int32) :=
  lt_ (a1 - 1) fun (v1 : Int32) =>
  (iter (fun s : Int32 × Int32 => fX1_orderAsDigits_b6 w s.1 s.2) FU (0, v1)).bind fun (l9 : Int32) =>
  some l9
def fX1_exchangePlaces (w : Wd) (a1 : Int32) (a2 : Int32) : Option (Wd) :=
  gd_ (ib a1 6) <|
  lt_ (w.1 37 a1.toNatClampNeg) fun (v2 : Int32) =>
  gd_ (ib a2 6) <|
  lt_ (upI w 37 (a1.toNatClampNeg) (w.1 37 a2.toNatClampNeg)) fun (w4 : Wd) =>
  lt_ (upI w4 37 (a2.toNatClampNeg) v2) fun (w5 : Wd) =>
  some w5
def fX1_nextOrder_b4 (w : Wd) (l2 : Int32) : Option ((Int32) ⊕ (Int32)) :=
  if l2 < 0 then
    some (.inr l2)
  else
    gd_ (ib l2 6) <|
    gd_ (ib (l2 + 1) 6) <|
    if (w.1 37 l2.toNatClampNeg) ≤ (w.1 37 (l2 + 1).toNatClampNeg) then
      some (.inr l2)
    else
      lt_ (l2 + (-1)) fun (v7 : Int32) =>
      some (.inl v7)
def fX1_nextOrder_b40 (l10 : Int32) (w11 : Wd) (l13 : Int32) : Option ((Int32) ⊕ (Int32)) :=
  if l13 ≤ l10 then
    some (.inr l13)
  else
    gd_ (ib l13 6) <|
    gd_ (ib l10 6) <|
    if (w11.1 37 l10.toNatClampNeg) ≤ (w11.1 37 l13.toNatClampNeg) then
      some (.inr l13)
    else
      lt_ (l13 + (-1)) fun (v18 : Int32) =>
      some (.inl v18)
def fX1_nextOrder_b82 (l27 : Int32) (l28 : Int32) (w29 : Wd) : Option ((Int32 × Int32 × Wd) ⊕ (Wd)) :=
  if l28 ≤ l27 then
    some (.inr w29)
  else
    (fX1_exchangePlaces w29 l27 l28).bind fun (w31 : Wd) =>
    lt_ (l27 + 1) fun (v32 : Int32) =>
    lt_ (l28 + (-1)) fun (v33 : Int32) =>
    some (.inl (v32, v33, w31))
def fX1_nextOrder_j66 (a1 : Int32) (w23 : Wd) (l21 : Int32) (l22 : Int32) : Option (Wd) :=
  (fX1_exchangePlaces w23 l21 l22).bind fun (w24 : Wd) =>
  lt_ (l21 + 1) fun (v25 : Int32) =>
  lt_ (a1 - 1) fun (v26 : Int32) =>
  (iter (fun s : Int32 × Int32 × Wd => fX1_nextOrder_b82 s.1 s.2.1 s.2.2) FU (v25, v26, w24)).bind fun (w35 : Wd) =>
  some w35
def fX1_nextOrder_j31 (a1 : Int32) (w11 : Wd) (l10 : Int32) : Option (Wd) :=
  if (0 : Int32) ≤ l10 then
    lt_ (a1 - 1) fun (v12 : Int32) =>
    (iter (fun s : Int32 => fX1_nextOrder_b40 l10 w11 s) FU v12).bind fun (l20 : Int32) =>
    fX1_nextOrder_j66 a1 w11 l10 l20
  else
    some w11
def fX1_nextOrder (w : Wd) (a1 : Int32) : Option (Wd) :=
  lt_ (a1 - 2) fun (v1 : Int32) =>
  (iter (fun s : Int32 => fX1_nextOrder_b4 w s) FU v1).bind fun (l9 : Int32) =>
  fX1_nextOrder_j31 a1 w l9
def fX1_findOrder_b33 (v3 : Int32) (l4 : Int32) (l5 : Int32) (w6 : Wd) : Option ((Int32 × Int32 × Wd) ⊕ (Int32 × Wd)) :=
  if v3 ≤ l5 then
    some (.inr (l4, w6))
  else
    gd_ (ib l5 6) <|
    lt_ (upI w6 37 (l5.toNatClampNeg) l5) fun (w8 : Wd) =>
    lt_ (l4 * (l5 + 1)) fun (v10 : Int32) =>
    lt_ (l5 + 1) fun (v11 : Int32) =>
    some (.inl (v10, v11, w8))
def fX1_findOrder_b67 (v3 : Int32) (l18 : Int32) (w19 : Wd) : Option ((Int32 × Wd) ⊕ (Wd)) :=
  if v3 ≤ l18 then
    some (.inr w19)
  else
    gd_ (ib l18 6) <|
    (fX2_copyOne 3 1 w19 l18 (w19.1 37 l18.toNatClampNeg)).bind fun (w22 : Wd) =>
    lt_ (l18 + 1) fun (v23 : Int32) =>
    some (.inl (v23, w22))
def fX1_findOrder_b59 (l13 : Int32) (v3 : Int32) (l15 : Int32) (w16 : Wd) : Option ((Int32 × Wd) ⊕ (Wd)) :=
  if l13 ≤ l15 then
    some (.inr w16)
  else
    (iter (fun s : Int32 × Wd => fX1_findOrder_b67 v3 s.1 s.2) FU (0, w16)).bind fun (w25 : Wd) =>
    (fX1_orderAsDigits w25 v3).bind fun (r26 : Int32) =>
    (fX1_countOf 3 w25).bind fun q29 => un2 q29 fun (r28 : Int32) (w27 : Wd) =>
    lt_ (fX1_consider w27 r26 r28) fun (w30 : Wd) =>
    (fX1_nextOrder w30 v3).bind fun (w31 : Wd) =>
    lt_ (l15 + 1) fun (v32 : Int32) =>
    some (.inl (v32, w31))
def fX1_findOrder (w : Wd) : Option (Wd) :=
  lt_ (fX1_startSearch w (-1)) fun (w1 : Wd) =>
  lt_ (fX2_takeFrom 3 1 w1) fun (w2 : Wd) =>
  lt_ (jmin (w2.1 1 0) 6) fun (v3 : Int32) =>
  (iter (fun s : Int32 × Int32 × Wd => fX1_findOrder_b33 v3 s.1 s.2.1 s.2.2) FU (1, 0, w2)).bind fun x12 => un2 x12 fun (l13 : Int32) (w14 : Wd) =>
  (iter (fun s : Int32 × Wd => fX1_findOrder_b59 l13 v3 s.1 s.2) FU (0, w14)).bind fun (w34 : Wd) =>
  some w34
def fX9_order_j37 (w1 : Wd) : Option (Int32 × Wd) :=
  (fX9_refuse w1 (-3)).bind fun q4 => un2 q4 fun (r3 : Int32) (w2 : Wd) =>
  some (r3, w2)
def fX9_order (w : Wd) (a1 : Int32) : Option (Int32 × Wd) :=
  if (fX9_isOutside a1 1) = 0 then
    if (w.1 1 0) = 0 then
      fX9_order_j37 w
    else
      if (w.1 1 0) ≤ 6 then
        (fX1_findOrder w).bind fun (w5 : Wd) =>
        if a1 = 0 then
          some (w5.1 10 0, w5)
        else
          some (w5.1 10 1, w5)
      else
        fX9_order_j37 w
  else
    (fX9_refuse w (-2)).bind fun q8 => un2 q8 fun (r7 : Int32) (w6 : Wd) =>
    some (r7, w6)
def fX2_becomeLantern (b : Nat) (w : Wd) (a1 : Int32) : Option (Wd) :=
  gd_ (ib a1 8) <|
  lt_ (upI w (9 + 4 * b) (a1.toNatClampNeg) 3) fun (w1 : Wd) =>
  lt_ (fX2_putLit b w1 a1 1) fun (w3 : Wd) =>
  some w3
def fX1_findLantern_b7 (l2 : Int32) (w3 : Wd) : Option ((Int32 × Wd) ⊕ (Wd)) :=
  if (w3.1 1 0) ≤ l2 then
    some (.inr w3)
  else
    lt_ (fX2_takeFrom 3 1 w3) fun (w5 : Wd) =>
    (fX2_becomeLantern 3 w5 l2).bind fun (w6 : Wd) =>
    (fX1_countOf 3 w6).bind fun q9 => un2 q9 fun (r8 : Int32) (w7 : Wd) =>
    lt_ (fX1_consider w7 l2 r8) fun (w10 : Wd) =>
    lt_ (l2 + 1) fun (v11 : Int32) =>
    some (.inl (v11, w10))
def fX1_findLantern (w : Wd) : Option (Wd) :=
  lt_ (fX1_startSearch w (-1)) fun (w1 : Wd) =>
  (iter (fun s : Int32 × Wd => fX1_findLantern_b7 s.1 s.2) FU (0, w1)).bind fun (w13 : Wd) =>
  some w13
def fX9_lantern (w : Wd) (a1 : Int32) : Option (Int32 × Wd) :=
  if (fX9_isOutside a1 1) = 0 then
    if (w.1 1 0) = 0 then
      (fX9_refuse w (-3)).bind fun q3 => un2 q3 fun (r2 : Int32) (w1 : Wd) =>
      some (r2, w1)
    else
      (fX1_findLantern w).bind fun (w4 : Wd) =>
      if a1 = 0 then
        some (w4.1 10 0, w4)
      else
        some (w4.1 10 1, w4)
  else
    (fX9_refuse w (-2)).bind fun q7 => un2 q7 fun (r6 : Int32) (w5 : Wd) =>
    some (r6, w5)
def fX1_lanternsDo_b13 (a1 : Int32) (l2 : Int32) (w3 : Wd) : Option ((Int32 × Wd) ⊕ (Wd)) :=
  if (w3.1 1 0) ≤ l2 then
    some (.inr w3)
  else
    if (fX9_hasBit a1 l2) = 0 then
      lt_ (l2 + 1) fun (v5 : Int32) =>
      some (.inl (v5, w3))
    else
      (fX2_becomeLantern 3 w3 l2).bind fun (w6 : Wd) =>
      lt_ (l2 + 1) fun (v7 : Int32) =>
      some (.inl (v7, w6))
def fX1_lanternsDo (w : Wd) (a1 : Int32) : Option (Int32 × Wd) :=
  lt_ (fX2_takeFrom 3 1 w) fun (w1 : Wd) =>
  (iter (fun s : Int32 × Wd => fX1_lanternsDo_b13 a1 s.1 s.2) FU (0, w1)).bind fun (w9 : Wd) =>
  (fX1_doorOf 3 w9).bind fun q12 => un2 q12 fun (r11 : Int32) (w10 : Wd) =>
  (fX2_grownOnes 3 w10).bind fun (r13 : Int32) =>
  if r11 = r13 then
    some (1, w10)
  else
    some (0, w10)
def fX1_fewestLanterns_b17 (v1 : Int32) (l2 : Int32) (l3 : Int32) (l4 : Int32) (w5 : Wd) : Option ((Int32 × Int32 × Int32 × Wd) ⊕ (Int32 × Wd)) :=
  if v1 < l4 then
    some (.inr (l2, w5))
  else
    lt_ (fJ6_bitCount_0f7a4 l4) fun (v7 : Int32) =>
    if l3 ≤ v7 then
      lt_ (l4 + 1) fun (v8 : Int32) =>
      some (.inl (l2, l3, v8, w5))
    else
      (fX1_lanternsDo w5 l4).bind fun q11 => un2 q11 fun (r10 : Int32) (w9 : Wd) =>
      if r10 = 0 then
        lt_ (l4 + 1) fun (v12 : Int32) =>
        some (.inl (l2, l3, v12, w9))
      else
        lt_ (l4 + 1) fun (v13 : Int32) =>
        some (.inl (l4, v7, v13, w9))
def fX1_fewestLanterns (w : Wd) : Option (Int32 × Wd) :=
  lt_ (fX2_everybody 1 w) fun (v1 : Int32) =>
  (iter (fun s : Int32 × Int32 × Int32 × Wd => fX1_fewestLanterns_b17 v1 s.1 s.2.1 s.2.2.1 s.2.2.2) FU ((-9), 9, 0, w)).bind fun x14 => un2 x14 fun (l15 : Int32) (w16 : Wd) =>
  some (l15, w16)
def fX9_numberOrSet (a0 : Int32) (a1 : Int32) : Int32 :=
  if (0 : Int32) ≤ a1 then
    if a0 = 0 then
      fJ6_bitCount_0f7a4 a1
    else
      a1
  else
    ((-9) : Int32)
def fX9_fewest (w : Wd) (a1 : Int32) : Option (Int32 × Wd) :=
  if (fX9_isOutside a1 1) = 0 then
    (fX1_fewestLanterns w).bind fun q3 => un2 q3 fun (r2 : Int32) (w1 : Wd) =>
    some (fX9_numberOrSet a1 r2, w1)
  else
    (fX9_refuse w (-2)).bind fun q6 => un2 q6 fun (r5 : Int32) (w4 : Wd) =>
    some (r5, w4)
def fX6_bestMatch_b25 (l7 : Int32) (l10 : Int32) (l11 : Int32) (l12 : Int32) (w13 : Wd) : Option ((Int32 × Int32 × Int32 × Wd) ⊕ (Int32 × Int32 × Wd)) :=
  if (w13.1 4 0) ≤ l12 then
    some (.inr (l10, l11, w13))
  else
    if (fX9_hasBit (w13.1 4 1) l12) = 0 then
      lt_ (l12 + 1) fun (v15 : Int32) =>
      some (.inl (l10, l11, v15, w13))
    else
      gd_ (ib l7 25) <|
      (fX8_atDoorFrom w13 l7 ((w13.1 26 l7.toNatClampNeg) ||| ((1 : Int32) <<< (l12 &&& 31)))).bind fun q19 => un2 q19 fun (r18 : Int32) (w17 : Wd) =>
      lt_ (fJ6_bitCount_0f7a4 r18) fun (v20 : Int32) =>
      if v20 ≤ l10 then
        lt_ (l12 + 1) fun (v21 : Int32) =>
        some (.inl (l10, l11, v21, w17))
      else
        lt_ ((10 * l7) + l12) fun (v22 : Int32) =>
        lt_ (l12 + 1) fun (v23 : Int32) =>
        some (.inl (v20, v22, v23, w17))
def fX6_bestMatch_b18 (l5 : Int32) (l6 : Int32) (l7 : Int32) (w8 : Wd) : Option ((Int32 × Int32 × Int32 × Wd) ⊕ (Int32 × Wd)) :=
  if l7 < 0 then
    some (.inr (l6, w8))
  else
    (iter (fun s : Int32 × Int32 × Int32 × Wd => fX6_bestMatch_b25 l7 s.1 s.2.1 s.2.2.1 s.2.2.2) FU (l5, l6, 0, w8)).bind fun x24 => un3 x24 fun (l25 : Int32) (l26 : Int32) (w27 : Wd) =>
    lt_ (l7 + (-1)) fun (v28 : Int32) =>
    some (.inl (l25, l26, v28, w27))
def fX6_bestMatch (w : Wd) : Option (Int32 × Wd) :=
  (fX6_startFromNow w).bind fun q3 => un2 q3 fun (r2 : Int32) (w1 : Wd) =>
  lt_ ((w1.1 4 4) - 1) fun (v4 : Int32) =>
  (iter (fun s : Int32 × Int32 × Int32 × Wd => fX6_bestMatch_b18 s.1 s.2.1 s.2.2.1 s.2.2.2) FU (r2, (-9), v4, w1)).bind fun x29 => un2 x29 fun (l30 : Int32) (w31 : Wd) =>
  some (l30, w31)
def fX9_match (w : Wd) : Option (Int32 × Wd) :=
  (fX6_bestMatch w).bind fun q3 => un2 q3 fun (r2 : Int32) (w1 : Wd) =>
  some (r2, w1)
def fX1_leftBehind_j99 (w15 : Wd) (l13 : Int32) (l14 : Int32) : Option ((Int32 × Int32 × Int32 × Int32 × Wd) ⊕ (Int32 × Wd)) :=
  lt_ (w15.1 3 0) fun (v16 : Int32) =>
  lt_ (l13 + 1) fun (v17 : Int32) =>
  some (.inl (l13, l14, v16, v17, w15))
def fX1_leftBehind_b9 (l1 : Int32) (l2 : Int32) (l3 : Int32) (l4 : Int32) (w5 : Wd) : Option ((Int32 × Int32 × Int32 × Int32 × Wd) ⊕ (Int32 × Wd)) :=
  if (w5.1 1 0) ≤ l4 then
    some (.inr (l1, w5))
  else
    lt_ (fX2_takeFrom 3 1 w5) fun (w7 : Wd) =>
    lt_ (upI w7 3 0 ((w7.1 1 0) - l4)) fun (w8 : Wd) =>
    lt_ (upI w8 3 1 ((w8.1 3 1) &&& (fX2_everybody 3 w8))) fun (w9 : Wd) =>
    (fX1_countOf 3 w9).bind fun q12 => un2 q12 fun (r11 : Int32) (w10 : Wd) =>
    if l4 = 0 then
      fX1_leftBehind_j99 w10 l4 r11
    else
      if (r11 * l3) ≤ (l2 * (w10.1 3 0)) then
        lt_ (l4 + 1) fun (v18 : Int32) =>
        some (.inl (l1, l2, l3, v18, w10))
      else
        fX1_leftBehind_j99 w10 l4 r11
def fX1_leftBehind (w : Wd) : Option (Int32 × Wd) :=
  (iter (fun s : Int32 × Int32 × Int32 × Int32 × Wd => fX1_leftBehind_b9 s.1 s.2.1 s.2.2.1 s.2.2.2.1 s.2.2.2.2) FU (0, 0, 1, 0, w)).bind fun x19 => un2 x19 fun (l20 : Int32) (w21 : Wd) =>
  some (l20, w21)
def fX9_tail (w : Wd) : Option (Int32 × Wd) :=
  if (w.1 1 0) = 0 then
    (fX9_refuse w (-3)).bind fun q3 => un2 q3 fun (r2 : Int32) (w1 : Wd) =>
    some (r2, w1)
  else
    (fX1_leftBehind w).bind fun q6 => un2 q6 fun (r5 : Int32) (w4 : Wd) =>
    some (r5, w4)
def fX6_tellsToStop_j85 (a2 : Int32) (w : Wd) : Option (Int32) :=
  if a2 = (w.1 4 1) then
    some (0 : Int32)
  else
    some (1 : Int32)
def fX6_tellsToStop_j57 (a1 : Int32) (a3 : Int32) (a2 : Int32) (w : Wd) : Option (Int32) :=
  if a1 = 4 then
    if (24 : Int32) ≤ a3 then
      some (0 : Int32)
    else
      gd_ (ib (a3 + 1) 25) <|
      if (5 : Int32) < (w.1 15 (a3 + 1).toNatClampNeg) then
        fX6_tellsToStop_j85 a2 w
      else
        some (0 : Int32)
  else
    fX6_tellsToStop_j85 a2 w
def fX6_tellsToStop (w : Wd) (a1 : Int32) (a2 : Int32) (a3 : Int32) : Option (Int32) :=
  if a1 = 0 then
    some (0 : Int32)
  else
    if a2 = 0 then
      some (0 : Int32)
    else
      if a1 = 1 then
        if (w.1 4 0) ≤ (2 * (fJ6_bitCount_0f7a4 a2)) then
          some (0 : Int32)
        else
          some (1 : Int32)
      else
        if a1 = 3 then
          gd_ (ib a3 25) <|
          if (w.1 15 a3.toNatClampNeg) ≤ 2 then
            fX6_tellsToStop_j57 a1 a3 a2 w
          else
            some (0 : Int32)
        else
          fX6_tellsToStop_j57 a1 a3 a2 w
def fX6_follow_b36 (a1 : Int32) (l4 : Int32) (l5 : Int32) (l6 : Int32) (l7 : Int32) (l8 : Int32) (w9 : Wd) : Option ((Int32 × Int32 × Int32 × Int32 × Int32 × Wd) ⊕ (Int32 × Int32 × Wd)) :=
  if (144 : Int32) ≤ l8 then
    some (.inr (l4, l7, w9))
  else
    if (w9.1 1 4) ≤ l5 then
      some (.inr (l4, l7, w9))
    else
      (if (5 : Int32) ≤ l6 then
        some (0 : Int32)
      else
        (fX6_tellsToStop w9 a1 l4 l5).bind fun (r14 : Int32) =>
        if r14 = 0 then
          some (0 : Int32)
        else
          some (1 : Int32) : Option Int32).bind fun (v13 : Int32) =>
      (fX8_minuteAt w9 l5 l4).bind fun q17 => un2 q17 fun (r16 : Int32) (w15 : Wd) =>
      lt_ (l7 + 1) fun (v18 : Int32) =>
      lt_ (if v13 = 0 then
        (0 : Int32)
      else
        l6 + 1 : Int32) fun (v19 : Int32) =>
      lt_ (if v13 = 0 then
        l5 + 1
      else
        l5 : Int32) fun (v20 : Int32) =>
      lt_ (l8 + 1) fun (v21 : Int32) =>
      some (.inl (r16, v20, v19, v18, v21, w15))
def fX6_follow_j125 (w28 : Wd) (l26 : Int32) (l27 : Int32) : Option (Wd) :=
  lt_ (upI w28 9 0 (fJ6_bitCount_0f7a4 l26)) fun (w29 : Wd) =>
  lt_ (upI w29 9 1 l27) fun (w30 : Wd) =>
  some w30
def fX6_follow (w : Wd) (a1 : Int32) : Option (Wd) :=
  (fX8_setOut 1 w).bind fun (w1 : Wd) =>
  lt_ (w1.1 1 1) fun (v2 : Int32) =>
  lt_ (w1.1 1 5) fun (v3 : Int32) =>
  (iter (fun s : Int32 × Int32 × Int32 × Int32 × Int32 × Wd => fX6_follow_b36 a1 s.1 s.2.1 s.2.2.1 s.2.2.2.1 s.2.2.2.2.1 s.2.2.2.2.2) FU (v2, v3, 0, 0, 0, w1)).bind fun x22 => un3 x22 fun (l23 : Int32) (l24 : Int32) (w25 : Wd) =>
  fX6_follow_j125 w25 l23 l24
def fX9_rule_j16 (w2 : Wd) : Option (Int32 × Wd) :=
  (fX9_refuse w2 (-2)).bind fun q5 => un2 q5 fun (r4 : Int32) (w3 : Wd) =>
  some (r4, w3)
def fX9_rule (w : Wd) (a1 : Int32) (a2 : Int32) : Option (Int32 × Wd) :=
  if (fX9_isOutside a1 4) = 0 then
    if (fX9_isOutside a2 1) = 0 then
      (fX6_follow w a1).bind fun (w1 : Wd) =>
      if a2 = 0 then
        some (w1.1 9 0, w1)
      else
        some (w1.1 9 1, w1)
    else
      fX9_rule_j16 w
  else
    fX9_rule_j16 w
def fX6_bestRule_j45 (w9 : Wd) (l8 : Int32) : Option ((Int32 × Int32 × Int32 × Int32 × Wd) ⊕ (Int32 × Wd)) :=
  lt_ (w9.1 9 0) fun (v10 : Int32) =>
  lt_ (w9.1 9 1) fun (v11 : Int32) =>
  lt_ (l8 + 1) fun (v12 : Int32) =>
  some (.inl (l8, v10, v11, v12, w9))
def fX6_bestRule_b9 (l1 : Int32) (l2 : Int32) (l3 : Int32) (l4 : Int32) (w5 : Wd) : Option ((Int32 × Int32 × Int32 × Int32 × Wd) ⊕ (Int32 × Wd)) :=
  if (4 : Int32) < l4 then
    some (.inr (l1, w5))
  else
    (fX6_follow w5 l4).bind fun (w7 : Wd) =>
    if l2 < (w7.1 9 0) then
      fX6_bestRule_j45 w7 l4
    else
      if (w7.1 9 0) = l2 then
        if l3 ≤ (w7.1 9 1) then
          lt_ (l4 + 1) fun (v13 : Int32) =>
          some (.inl (l1, l2, l3, v13, w7))
        else
          fX6_bestRule_j45 w7 l4
      else
        lt_ (l4 + 1) fun (v14 : Int32) =>
        some (.inl (l1, l2, l3, v14, w7))
def fX6_bestRule (w : Wd) : Option (Int32 × Wd) :=
  (iter (fun s : Int32 × Int32 × Int32 × Int32 × Wd => fX6_bestRule_b9 s.1 s.2.1 s.2.2.1 s.2.2.2.1 s.2.2.2.2) FU (0, (-1), 0, 0, w)).bind fun x15 => un2 x15 fun (l16 : Int32) (w17 : Wd) =>
  some (l16, w17)
def fX9_best (w : Wd) : Option (Int32 × Wd) :=
  (fX6_bestRule w).bind fun q3 => un2 q3 fun (r2 : Int32) (w1 : Wd) =>
  some (r2, w1)
def fX9_calm_j9 (w1 : Wd) : Option (Int32 × Wd) :=
  (fX9_refuse w1 (-4)).bind fun q4 => un2 q4 fun (r3 : Int32) (w2 : Wd) =>
  some (r3, w2)
def fX9_calm_j28 (w5 : Wd) : Option (Int32 × Wd) :=
  (fX9_refuse w5 (-6)).bind fun q8 => un2 q8 fun (r7 : Int32) (w6 : Wd) =>
  some (r7, w6)
def fX9_calm (w : Wd) (a1 : Int32) (a2 : Int32) : Option (Int32 × Wd) :=
  if a1 < 1 then
    fX9_calm_j9 w
  else
    if (0 : Int32) ≤ a2 then
      if (99 : Int32) < a1 then
        fX9_calm_j28 w
      else
        if a2 ≤ 99 then
          lt_ ((2 * a2) + 1) fun (v9 : Int32) =>
          gd_ (!(v9 == 0)) <|
          some (((a1 + v9) - 1) / v9, w)
        else
          fX9_calm_j28 w
    else
      fX9_calm_j9 w
def fX9_spreads_j9 (w1 : Wd) : Option (Int32 × Wd) :=
  (fX9_refuse w1 (-4)).bind fun q4 => un2 q4 fun (r3 : Int32) (w2 : Wd) =>
  some (r3, w2)
def fX9_spreads_j28 (w5 : Wd) : Option (Int32 × Wd) :=
  (fX9_refuse w5 (-6)).bind fun q8 => un2 q8 fun (r7 : Int32) (w6 : Wd) =>
  some (r7, w6)
def fX9_spreads (w : Wd) (a1 : Int32) (a2 : Int32) : Option (Int32 × Wd) :=
  if a1 < 1 then
    fX9_spreads_j9 w
  else
    if (0 : Int32) ≤ a2 then
      if (99 : Int32) < a1 then
        fX9_spreads_j28 w
      else
        if a2 ≤ 99 then
          if a2 < a1 then
            some (jmax a2 ((a1 - 1) - a2), w)
          else
            (fX9_refuse w (-1)).bind fun q11 => un2 q11 fun (r10 : Int32) (w9 : Wd) =>
            some (r10, w9)
        else
          fX9_spreads_j28 w
    else
      fX9_spreads_j9 w
def fX9_refuseLong (w : Wd) (a1 : Int32) : Option (Int64 × Wd) :=
  (fX9_refuse w a1).bind fun q3 => un2 q3 fun (r2 : Int32) (w1 : Wd) =>
  some (4000000000000000000 - (r2.toInt64), w1)
def fX0_fillTenths_j44 (w6 : Wd) (l4 : Int32) (l5 : Int32) : Option ((Int32 × Wd) ⊕ (Wd)) :=
  gd_ (ib l4 4) <|
  lt_ (upI w6 41 (l4.toNatClampNeg) (jmax 0 (jmin 9 l5))) fun (w7 : Wd) =>
  lt_ (l4 + 1) fun (v9 : Int32) =>
  some (.inl (v9, w7))
def fX0_fillTenths_b2 (b1 : Nat) (a2 : Int32) (l1 : Int32) (w2 : Wd) : Option ((Int32 × Wd) ⊕ (Wd)) :=
  if (4 : Int32) ≤ l1 then
    some (.inr w2)
  else
    if (fX2_hasOne b1 w2 l1) = 0 then
      fX0_fillTenths_j44 w2 l1 0
    else
      gd_ (ib l1 8) <|
      if (w2.1 (9 + 4 * b1) l1.toNatClampNeg) = 3 then
        fX0_fillTenths_j44 w2 l1 0
      else
        (fX2_feltBy b1 w2 l1 a2).bind fun (r11 : Int32) =>
        (fX2_holdsOf b1 w2 l1).bind fun (r12 : Int32) =>
        lt_ (r11 - (r12 - 2)) fun (v13 : Int32) =>
        fX0_fillTenths_j44 w2 l1 v13
def fX0_fillTenths (b1 : Nat) (w : Wd) (a2 : Int32) : Option (Wd) :=
  (iter (fun s : Int32 × Wd => fX0_fillTenths_b2 b1 a2 s.1 s.2) FU (0, w)).bind fun (w15 : Wd) =>
  some w15
def fX0_partsOf_b5 (a2 : Int32) (a1 : Int32) (w : Wd) (l1 : Int64) (l2 : Int32) : Option ((Int64 × Int32) ⊕ (Int64)) :=
  if (4 : Int32) ≤ l2 then
    some (.inr l1)
  else
    if (fX9_hasBit a2 l2) = 0 then
      (if (fX9_hasBit a1 l2) = 0 then
        some (10 : Int64)
      else
        gd_ (ib l2 4) <|
        some ((10 - (w.1 41 l2.toNatClampNeg)).toInt64) : Option Int64).bind fun (v5 : Int64) =>
      lt_ (l1 * v5) fun (v7 : Int64) =>
      lt_ (l2 + 1) fun (v8 : Int32) =>
      some (.inl (v7, v8))
    else
      gd_ (ib l2 4) <|
      lt_ (l1 * ((w.1 41 l2.toNatClampNeg).toInt64)) fun (v10 : Int64) =>
      lt_ (l2 + 1) fun (v11 : Int32) =>
      some (.inl (v10, v11))
def fX0_partsOf (w : Wd) (a1 : Int32) (a2 : Int32) : Option (Int64) :=
  (iter (fun s : Int64 × Int32 => fX0_partsOf_b5 a2 a1 w s.1 s.2) FU (1, 0)).bind fun (l13 : Int64) =>
  some l13
def fX0_passChances_b2 (l1 : Int32) (w2 : Wd) : Option ((Int32 × Wd) ⊕ (Wd)) :=
  if (16 : Int32) ≤ l1 then
    some (.inr w2)
  else
    gd_ (ib l1 16) <|
    lt_ (upJ w2 40 (l1.toNatClampNeg) 0) fun (w4 : Wd) =>
    lt_ (l1 + 1) fun (v6 : Int32) =>
    some (.inl (v6, w4))
def fX0_passChances_b31 (l9 : Int32) (l12 : Int32) (w13 : Wd) : Option ((Int32 × Wd) ⊕ (Wd)) :=
  if l9 < l12 then
    some (.inr w13)
  else
    gd_ (ib l9 16) <|
    if (lg_cmp (w13.2 39 l9.toNatClampNeg) 0) = 0 then
      lt_ (l12 + 1) fun (v16 : Int32) =>
      some (.inl (v16, w13))
    else
      if (l12 &&& (l9 ^^^ (-1))) = 0 then
        (fX8_relight w13 (l9 &&& (l12 ^^^ (-1)))).bind fun q19 => un2 q19 fun (r18 : Int32) (w17 : Wd) =>
        lt_ (r18 &&& 15) fun (v20 : Int32) =>
        gd_ (ib v20 16) <|
        (fX0_partsOf w17 l9 l12).bind fun (r22 : Int64) =>
        lt_ (upJ w17 40 (v20.toNatClampNeg) ((w17.2 40 v20.toNatClampNeg) + ((w17.2 39 l9.toNatClampNeg) * r22))) fun (w23 : Wd) =>
        lt_ (l12 + 1) fun (v24 : Int32) =>
        some (.inl (v24, w23))
      else
        lt_ (l12 + 1) fun (v25 : Int32) =>
        some (.inl (v25, w13))
def fX0_passChances_b23 (l9 : Int32) (w10 : Wd) : Option ((Int32 × Wd) ⊕ (Wd)) :=
  if (16 : Int32) ≤ l9 then
    some (.inr w10)
  else
    (iter (fun s : Int32 × Wd => fX0_passChances_b31 l9 s.1 s.2) FU (0, w10)).bind fun (w27 : Wd) =>
    lt_ (l9 + 1) fun (v28 : Int32) =>
    some (.inl (v28, w27))
def fX0_passChances (w : Wd) : Option (Wd) :=
  (iter (fun s : Int32 × Wd => fX0_passChances_b2 s.1 s.2) FU (0, w)).bind fun (w8 : Wd) =>
  (iter (fun s : Int32 × Wd => fX0_passChances_b23 s.1 s.2) FU (0, w8)).bind fun (w30 : Wd) =>
  lt_ (upB w30 39 (va_cpy (w30.2 40) (w30.2 39) 0 0 16)) fun (w31 : Wd) =>
  some w31
def fX0_weigh_b10 (b1 : Nat) (l2 : Int32) (w3 : Wd) : Option ((Int32 × Wd) ⊕ (Wd)) :=
  if (16 : Int32) ≤ l2 then
    some (.inr w3)
  else
    lt_ (if l2 = (w3.1 b1 1) then
      (1 : Int64)
    else
      (0 : Int64) : Int64) fun (v5 : Int64) =>
    gd_ (ib l2 16) <|
    lt_ (upJ w3 39 (l2.toNatClampNeg) v5) fun (w6 : Wd) =>
    lt_ (l2 + 1) fun (v8 : Int32) =>
    some (.inl (v8, w6))
def fX0_weigh_b48 (a2 : Int32) (b1 : Nat) (l12 : Int32) (w13 : Wd) : Option ((Int32 × Wd) ⊕ (Wd)) :=
  if a2 ≤ l12 then
    some (.inr w13)
  else
    (fX0_fillTenths b1 w13 ((w13.1 b1 5) + l12)).bind fun (w15 : Wd) =>
    (fX0_passChances w15).bind fun (w16 : Wd) =>
    lt_ (upJ w16 11 0 ((w16.2 11 0) * 10000)) fun (w17 : Wd) =>
    lt_ (l12 + 1) fun (v18 : Int32) =>
    some (.inl (v18, w17))
def fX0_weigh (b1 : Nat) (w : Wd) (a2 : Int32) : Option (Wd) :=
  (fX8_setOut b1 w).bind fun (w1 : Wd) =>
  (iter (fun s : Int32 × Wd => fX0_weigh_b10 b1 s.1 s.2) FU (0, w1)).bind fun (w10 : Wd) =>
  lt_ (upJ w10 11 0 1) fun (w11 : Wd) =>
  (iter (fun s : Int32 × Wd => fX0_weigh_b48 a2 b1 s.1 s.2) FU (0, w11)).bind fun (w20 : Wd) =>
  some w20
def fX0_greatestCommon_b9 (l1 : Int64) (l2 : Int64) (l3 : Int32) : Option ((Int64 × Int64 × Int32) ⊕ (Int64)) :=
  if (200 : Int32) ≤ l3 then
    some (.inr l1)
  else
    if (lg_cmp l2 0) = 0 then
      some (.inr l1)
    else
      gd_ (!(l2 == 0)) <|
      lt_ (jremL l1 l2) fun (v7 : Int64) =>
      lt_ (l3 + 1) fun (v8 : Int32) =>
      some (.inl (l2, v7, v8))
def fX0_greatestCommon (a0 : Int64) (a2 : Int64) : Option (Int64) :=
  (iter (fun s : Int64 × Int64 × Int32 => fX0_greatestCommon_b9 s.1 s.2.1 s.2.2) FU (a0, a2, 0)).bind fun (l10 : Int64) =>
  some l10
def fX0_inLeastTerms_b5 (a1 : Int32) (w : Wd) (l1 : Int64) (l2 : Int32) : Option ((Int64 × Int32) ⊕ (Int64)) :=
  if (16 : Int32) ≤ l2 then
    some (.inr l1)
  else
    (if a1 = 0 then
      gd_ (ib l2 16) <|
      some (w.2 39 l2.toNatClampNeg)
    else
      gd_ (ib l2 16) <|
      some ((w.2 39 l2.toNatClampNeg) * ((fJ6_bitCount_0f7a4 l2).toInt64)) : Option Int64).bind fun (v5 : Int64) =>
    lt_ (l1 + v5) fun (v8 : Int64) =>
    lt_ (l2 + 1) fun (v9 : Int32) =>
    some (.inl (v8, v9))
def fX0_inLeastTerms (w : Wd) (a1 : Int32) (a2 : Int32) : Option (Int64) :=
  (iter (fun s : Int64 × Int32 => fX0_inLeastTerms_b5 a1 w s.1 s.2) FU (0, 1)).bind fun (l11 : Int64) =>
  (fX0_greatestCommon (w.2 11 0) l11).bind fun (r12 : Int64) =>
  lt_ (if a2 = 0 then
    l11
  else
    w.2 11 0 : Int64) fun (v13 : Int64) =>
  gd_ (!((jmaxL 1 r12) == 0)) <|
  some (v13 / (jmaxL 1 r12))
def fX9_chances_j76 (w1 : Wd) : Option (Int64 × Wd) :=
  (fX9_refuseLong w1 (-3)).bind fun q4 => un2 q4 fun (r3 : Int64) (w2 : Wd) =>
  some (r3, w2)
def fX9_chances_j119 (w9 : Wd) (l7 : Int32) (l8 : Int32) : Option (Int64 × Wd) :=
  (fX0_inLeastTerms w9 l7 l8).bind fun (r10 : Int64) =>
  some (r10, w9)
def fX9_chances_j39 (w11 : Wd) : Option (Int64 × Wd) :=
  (fX9_refuseLong w11 (-2)).bind fun q14 => un2 q14 fun (r13 : Int64) (w12 : Wd) =>
  some (r13, w12)
def fX9_chances (w : Wd) (a1 : Int32) (a2 : Int32) (a3 : Int32) : Option (Int64 × Wd) :=
  if (0 : Int32) ≤ a1 then
    if a1 ≤ 3 then
      if (fX9_isOutside a2 1) = 0 then
        if (fX9_isOutside a3 1) = 0 then
          if (4 : Int32) < (w.1 1 0) then
            fX9_chances_j76 w
          else
            if a1 ≤ ((w.1 1 4) - (w.1 1 5)) then
              (fX0_weigh 1 w a1).bind fun (w5 : Wd) =>
              lt_ (if a2 = 1 then
                (1 : Int32)
              else
                (0 : Int32) : Int32) fun (v6 : Int32) =>
              if a3 = 1 then
                fX9_chances_j119 w5 v6 1
              else
                fX9_chances_j119 w5 v6 0
            else
              fX9_chances_j76 w
        else
          fX9_chances_j39 w
      else
        fX9_chances_j39 w
    else
      (fX9_refuseLong w (-6)).bind fun q17 => un2 q17 fun (r16 : Int64) (w15 : Wd) =>
      some (r16, w15)
  else
    (fX9_refuseLong w (-4)).bind fun q20 => un2 q20 fun (r19 : Int64) (w18 : Wd) =>
    some (r19, w18)
def fX4_agrees_b10 (w1 : Wd) (l2 : Int32) : Option ((Int32) ⊕ (Int32 × Wd)) :=
  if (w1.1 4 0) ≤ l2 then
    some (.inr (1, w1))
  else
    (fX4_darkEnds w1 l2).bind fun (r3 : Int32) =>
    gd_ (ib l2 12) <|
    if r3 = (w1.1 34 l2.toNatClampNeg) then
      lt_ (l2 + 1) fun (v5 : Int32) =>
      some (.inl v5)
    else
      some (.inr (0, w1))
def fX4_agrees (w : Wd) (a1 : Int32) : Option (Int32 × Wd) :=
  (fX8_walkOn w a1).bind fun (w1 : Wd) =>
  iter (fun s : Int32 => fX4_agrees_b10 w1 s) FU (0 : Int32)
def fX4_findWaxSets_j70 (w13 : Wd) (l12 : Int32) : Option ((Int32 × Wd) ⊕ (Wd)) :=
  lt_ (upI w13 8 0 ((w13.1 8 0) + 1)) fun (w14 : Wd) =>
  lt_ (l12 + 1) fun (v15 : Int32) =>
  some (.inl (v15, w14))
def fX4_findWaxSets_b24 (l4 : Int32) (w5 : Wd) : Option ((Int32 × Wd) ⊕ (Wd)) :=
  if (w5.1 4 1) < l4 then
    some (.inr w5)
  else
    if (l4 &&& ((w5.1 4 1) ^^^ (-1))) = 0 then
      (fX4_agrees w5 l4).bind fun q9 => un2 q9 fun (r8 : Int32) (w7 : Wd) =>
      if r8 = 0 then
        lt_ (l4 + 1) fun (v10 : Int32) =>
        some (.inl (v10, w7))
      else
        if (w7.1 8 0) = 0 then
          lt_ (upI w7 8 1 l4) fun (w11 : Wd) =>
          fX4_findWaxSets_j70 w11 l4
        else
          fX4_findWaxSets_j70 w7 l4
    else
      lt_ (l4 + 1) fun (v16 : Int32) =>
      some (.inl (v16, w5))
def fX4_findWaxSets (w : Wd) : Option (Wd) :=
  (fX8_setOut 1 w).bind fun (w1 : Wd) =>
  lt_ (upI w1 8 0 0) fun (w2 : Wd) =>
  lt_ (upI w2 8 1 (-9)) fun (w3 : Wd) =>
  (iter (fun s : Int32 × Wd => fX4_findWaxSets_b24 s.1 s.2) FU (0, w3)).bind fun (w18 : Wd) =>
  some w18
def fX9_wax (w : Wd) (a1 : Int32) : Option (Int32 × Wd) :=
  if (fX9_isOutside a1 1) = 0 then
    if (w.1 7 0) = (w.1 1 0) then
      (fX4_findWaxSets w).bind fun (w1 : Wd) =>
      if a1 = 0 then
        some (w1.1 8 0, w1)
      else
        some (w1.1 8 1, w1)
    else
      (fX9_refuse w (-3)).bind fun q4 => un2 q4 fun (r3 : Int32) (w2 : Wd) =>
      some (r3, w2)
  else
    (fX9_refuse w (-2)).bind fun q7 => un2 q7 fun (r6 : Int32) (w5 : Wd) =>
    some (r6, w5)
def fX2_blowFrom_b2 (b : Nat) (a1 : Int32) (l1 : Int32) (w2 : Wd) : Option ((Int32 × Wd) ⊕ (Wd)) :=
  if (24 : Int32) < l1 then
    some (.inr w2)
  else
    gd_ (ib l1 25) <|
    lt_ (upI w2 (12 + 4 * b) (l1.toNatClampNeg) a1) fun (w4 : Wd) =>
    lt_ (l1 + 1) fun (v6 : Int32) =>
    some (.inl (v6, w4))
def fX2_blowFrom (b : Nat) (w : Wd) (a1 : Int32) : Option (Wd) :=
  (iter (fun s : Int32 × Wd => fX2_blowFrom_b2 b a1 s.1 s.2) FU (0, w)).bind fun (w8 : Wd) =>
  some w8
def fX1_bestSide_b7 (l2 : Int32) (w3 : Wd) : Option ((Int32 × Wd) ⊕ (Wd)) :=
  if (2 : Int32) < l2 then
    some (.inr w3)
  else
    lt_ (fX2_takeFrom 3 1 w3) fun (w5 : Wd) =>
    (fX2_blowFrom 3 w5 l2).bind fun (w6 : Wd) =>
    (fX1_countOf 3 w6).bind fun q9 => un2 q9 fun (r8 : Int32) (w7 : Wd) =>
    lt_ (fX1_consider w7 l2 r8) fun (w10 : Wd) =>
    lt_ (l2 + 1) fun (v11 : Int32) =>
    some (.inl (v11, w10))
def fX1_bestSide (w : Wd) : Option (Int32 × Wd) :=
  lt_ (fX1_startSearch w (-1)) fun (w1 : Wd) =>
  (iter (fun s : Int32 × Wd => fX1_bestSide_b7 s.1 s.2) FU (0, w1)).bind fun (w13 : Wd) =>
  some (w13.1 10 0, w13)
def fX9_sides (w : Wd) : Option (Int32 × Wd) :=
  (fX1_bestSide w).bind fun q3 => un2 q3 fun (r2 : Int32) (w1 : Wd) =>
  some (r2, w1)
def fX7_isFull (w : Wd) : Int32 :=
  if (w.1 7 0) < 12 then
    (0 : Int32)
  else
    (1 : Int32)
def fX7_append (w : Wd) (a1 : Int32) : Option (Int32 × Wd) :=
  if (fX7_isFull w) = 0 then
    gd_ (ib (w.1 7 0) 12) <|
    lt_ (upI w 34 ((w.1 7 0).toNatClampNeg) a1) fun (w1 : Wd) =>
    lt_ (upI w1 7 0 ((w1.1 7 0) + 1)) fun (w3 : Wd) =>
    some (w3.1 7 0, w3)
  else
    some (w.1 7 0, w)
def fX9_row_j27 (w1 : Wd) : Option (Int32 × Wd) :=
  (fX9_refuse w1 (-6)).bind fun q4 => un2 q4 fun (r3 : Int32) (w2 : Wd) =>
  some (r3, w2)
def fX9_row (w : Wd) (a1 : Int32) : Option (Int32 × Wd) :=
  if (0 : Int32) ≤ a1 then
    if (99 : Int32) < a1 then
      fX9_row_j27 w
    else
      if (fX7_isFull w) = 0 then
        (fX7_append w a1).bind fun q7 => un2 q7 fun (r6 : Int32) (w5 : Wd) =>
        some (r6, w5)
      else
        fX9_row_j27 w
  else
    (fX9_refuse w (-4)).bind fun q10 => un2 q10 fun (r9 : Int32) (w8 : Wd) =>
    some (r9, w8)
def fX4_firstUntrue_b6 (w1 : Wd) (l2 : Int32) : Option ((Int32) ⊕ (Int32 × Wd)) :=
  if (w1.1 7 0) ≤ l2 then
    some (.inr ((-9), w1))
  else
    if (w1.1 4 4) ≤ l2 then
      some (.inr (l2, w1))
    else
      gd_ (ib (l2 + 1) 25) <|
      gd_ (ib l2 12) <|
      if (fJ6_bitCount_0f7a4 (w1.1 26 (l2 + 1).toNatClampNeg)) = (w1.1 34 l2.toNatClampNeg) then
        lt_ (l2 + 1) fun (v5 : Int32) =>
        some (.inl v5)
      else
        some (.inr (l2, w1))
def fX4_firstUntrue (w : Wd) : Option (Int32 × Wd) :=
  (fX4_walkFromNow w).bind fun (w1 : Wd) =>
  iter (fun s : Int32 => fX4_firstUntrue_b6 w1 s) FU (0 : Int32)
def fX9_judge (w : Wd) : Option (Int32 × Wd) :=
  (fX4_firstUntrue w).bind fun q3 => un2 q3 fun (r2 : Int32) (w1 : Wd) =>
  lt_ (upI w1 7 0 0) fun (w4 : Wd) =>
  some (r2, w4)
def fX9_clear (w : Wd) : Int32 × Wd :=
  lt_ (w.1 7 0) fun (v1 : Int32) =>
  lt_ (upI w 7 0 0) fun (w2 : Wd) =>
  (v1, w2)
def fX1_drawBelow (w : Wd) (a1 : Int32) : Option (Int32 × Wd) :=
  lt_ (upI w 10 4 (((w.1 10 4) * 1103515245) + 12345)) fun (w1 : Wd) =>
  if a1 ≤ 0 then
    some (0, w1)
  else
    gd_ (!(a1 == 0)) <|
    some (jrem (((w1.1 10 4) &&& 2147483647) / 65536) a1, w1)
def fX1_walkNights_b42 (l9 : Int32) (w10 : Wd) : Option ((Int32 × Wd) ⊕ (Wd)) :=
  if (24 : Int32) < l9 then
    some (.inr w10)
  else
    (fX1_drawBelow w10 10).bind fun q14 => un2 q14 fun (r13 : Int32) (w12 : Wd) =>
    gd_ (ib l9 25) <|
    lt_ (upI w12 23 (l9.toNatClampNeg) r13) fun (w15 : Wd) =>
    (fX1_drawBelow w15 3).bind fun q19 => un2 q19 fun (r18 : Int32) (w17 : Wd) =>
    lt_ (upI w17 24 (l9.toNatClampNeg) r18) fun (w20 : Wd) =>
    lt_ (l9 + 1) fun (v21 : Int32) =>
    some (.inl (v21, w20))
def fX1_walkNights_b28 (a1 : Int32) (l5 : Int32) (w6 : Wd) : Option ((Int32 × Wd) ⊕ (Wd)) :=
  if a1 ≤ l5 then
    some (.inr w6)
  else
    lt_ (w6.1 1 5) fun (v8 : Int32) =>
    (iter (fun s : Int32 × Wd => fX1_walkNights_b42 s.1 s.2) FU (v8, w6)).bind fun (w23 : Wd) =>
    (fX1_countOf 3 w23).bind fun q26 => un2 q26 fun (r25 : Int32) (w24 : Wd) =>
    lt_ (upI w24 10 2 ((w24.1 10 2) + r25)) fun (w27 : Wd) =>
    lt_ (if r25 = 0 then
      (1 : Int32)
    else
      (0 : Int32) : Int32) fun (v28 : Int32) =>
    lt_ (upI w27 10 3 ((w27.1 10 3) + v28)) fun (w29 : Wd) =>
    lt_ (l5 + 1) fun (v30 : Int32) =>
    some (.inl (v30, w29))
def fX1_walkNights (w : Wd) (a1 : Int32) (a2 : Int32) : Option (Wd) :=
  lt_ (upI w 10 4 a2) fun (w1 : Wd) =>
  lt_ (upI w1 10 2 0) fun (w2 : Wd) =>
  lt_ (upI w2 10 3 0) fun (w3 : Wd) =>
  lt_ (fX2_takeFrom 3 1 w3) fun (w4 : Wd) =>
  (iter (fun s : Int32 × Wd => fX1_walkNights_b28 a1 s.1 s.2) FU (0, w4)).bind fun (w32 : Wd) =>
  some w32
def fX9_seeds (w : Wd) (a1 : Int32) (a2 : Int32) (a3 : Int32) : Option (Int32 × Wd) :=
  if (1 : Int32) ≤ a1 then
    if a1 ≤ 20 then
      if (fX9_isOutside a3 1) = 0 then
        (fX1_walkNights w a1 a2).bind fun (w1 : Wd) =>
        if a3 = 0 then
          some (w1.1 10 2, w1)
        else
          some (w1.1 10 3, w1)
      else
        (fX9_refuse w (-2)).bind fun q4 => un2 q4 fun (r3 : Int32) (w2 : Wd) =>
        some (r3, w2)
    else
      (fX9_refuse w (-6)).bind fun q7 => un2 q7 fun (r6 : Int32) (w5 : Wd) =>
      some (r6, w5)
  else
    (fX9_refuse w (-4)).bind fun q10 => un2 q10 fun (r9 : Int32) (w8 : Wd) =>
    some (r9, w8)
def fX5_takeBack (b1 : Nat) (w : Wd) : Option (Wd) :=
  if (w.1 5 0) ≤ 0 then
    some w
  else
    lt_ (upI w 5 0 ((w.1 5 0) - 1)) fun (w1 : Wd) =>
    gd_ (ib (w1.1 5 0) 8) <|
    lt_ (upI w1 b1 1 (w1.1 30 (w1.1 5 0).toNatClampNeg)) fun (w3 : Wd) =>
    gd_ (ib (w3.1 5 0) 8) <|
    lt_ (upI w3 b1 5 (w3.1 31 (w3.1 5 0).toNatClampNeg)) fun (w5 : Wd) =>
    gd_ (ib (w5.1 5 0) 8) <|
    lt_ (upI w5 b1 6 (w5.1 32 (w5.1 5 0).toNatClampNeg)) fun (w7 : Wd) =>
    some w7
def fX9_back (w : Wd) : Option (Int32 × Wd) :=
  if (w.1 5 0) = 0 then
    (fX9_refuse w (-3)).bind fun q3 => un2 q3 fun (r2 : Int32) (w1 : Wd) =>
    some (r2, w1)
  else
    (fX5_takeBack 1 w).bind fun (w4 : Wd) =>
    some (w4.1 1 5, w4)
def fX4_calmMinutes_b21 (l3 : Int32) (l4 : Int32) (w5 : Wd) : Option ((Int32 × Int32 × Wd) ⊕ (Int32 × Wd)) :=
  if (60 : Int32) < l4 then
    some (.inr ((-9), w5))
  else
    if l3 = (w5.1 4 1) then
      some (.inr (l4, w5))
    else
      (fX8_relight w5 l3).bind fun q8 => un2 q8 fun (r7 : Int32) (w6 : Wd) =>
      lt_ (l4 + 1) fun (v9 : Int32) =>
      some (.inl (r7, v9, w6))
def fX4_calmMinutes (w : Wd) : Option (Int32 × Wd) :=
  (fX8_setOut 1 w).bind fun (w1 : Wd) =>
  lt_ (w1.1 1 1) fun (v2 : Int32) =>
  iter (fun s : Int32 × Int32 × Wd => fX4_calmMinutes_b21 s.1 s.2.1 s.2.2) FU (v2, 0, w1)
def fX9_all (w : Wd) : Option (Int32 × Wd) :=
  (fX4_calmMinutes w).bind fun q3 => un2 q3 fun (r2 : Int32) (w1 : Wd) =>
  some (r2, w1)
def fX4_calmBehind_b21 (a1 : Int32) (l3 : Int32) (l4 : Int32) (w5 : Wd) : Option ((Int32 × Int32 × Wd) ⊕ (Int32 × Wd)) :=
  if a1 ≤ l4 then
    some (.inr (l3, w5))
  else
    (fX8_relight w5 l3).bind fun q9 => un2 q9 fun (r8 : Int32) (w7 : Wd) =>
    lt_ (l4 + 1) fun (v10 : Int32) =>
    some (.inl (r8, v10, w7))
def fX4_calmBehind (w : Wd) (a1 : Int32) : Option (Int32 × Wd) :=
  (fX8_setOut 1 w).bind fun (w1 : Wd) =>
  lt_ (w1.1 1 1) fun (v2 : Int32) =>
  (iter (fun s : Int32 × Int32 × Wd => fX4_calmBehind_b21 a1 s.1 s.2.1 s.2.2) FU (v2, 0, w1)).bind fun x11 => un2 x11 fun (l12 : Int32) (w13 : Wd) =>
  some (l12, w13)
def fX9_behind (w : Wd) (a1 : Int32) : Option (Int32 × Wd) :=
  if (0 : Int32) ≤ a1 then
    if a1 ≤ 60 then
      (fX4_calmBehind w a1).bind fun q3 => un2 q3 fun (r2 : Int32) (w1 : Wd) =>
      some (r2, w1)
    else
      (fX9_refuse w (-6)).bind fun q6 => un2 q6 fun (r5 : Int32) (w4 : Wd) =>
      some (r5, w4)
  else
    (fX9_refuse w (-4)).bind fun q9 => un2 q9 fun (r8 : Int32) (w7 : Wd) =>
    some (r8, w7)
def fX4_enoughAtFirst_b19 (l2 : Int32) (l3 : Int32) (l4 : Int32) (w5 : Wd) : Option ((Int32 × Int32 × Int32 × Wd) ⊕ (Int32 × Wd)) :=
  if (w5.1 4 1) < l4 then
    some (.inr (l2, w5))
  else
    lt_ (fJ6_bitCount_0f7a4 l4) fun (v7 : Int32) =>
    if l3 ≤ v7 then
      lt_ (l4 + 1) fun (v8 : Int32) =>
      some (.inl (l2, l3, v8, w5))
    else
      if (l4 &&& ((w5.1 4 1) ^^^ (-1))) = 0 then
        (fX8_atDoorFrom w5 0 l4).bind fun q11 => un2 q11 fun (r10 : Int32) (w9 : Wd) =>
        if r10 = (w9.1 4 1) then
          lt_ (l4 + 1) fun (v12 : Int32) =>
          some (.inl (l4, v7, v12, w9))
        else
          lt_ (l4 + 1) fun (v13 : Int32) =>
          some (.inl (l2, l3, v13, w9))
      else
        lt_ (l4 + 1) fun (v14 : Int32) =>
        some (.inl (l2, l3, v14, w5))
def fX4_enoughAtFirst (w : Wd) : Option (Int32 × Wd) :=
  (fX8_setOut 1 w).bind fun (w1 : Wd) =>
  (iter (fun s : Int32 × Int32 × Int32 × Wd => fX4_enoughAtFirst_b19 s.1 s.2.1 s.2.2.1 s.2.2.2) FU ((-9), 9, 0, w1)).bind fun x15 => un2 x15 fun (l16 : Int32) (w17 : Wd) =>
  some (l16, w17)
def fX9_atFirst (w : Wd) (a1 : Int32) : Option (Int32 × Wd) :=
  if (fX9_isOutside a1 1) = 0 then
    (fX4_enoughAtFirst w).bind fun q3 => un2 q3 fun (r2 : Int32) (w1 : Wd) =>
    some (fX9_numberOrSet a1 r2, w1)
  else
    (fX9_refuse w (-2)).bind fun q6 => un2 q6 fun (r5 : Int32) (w4 : Wd) =>
    some (r5, w4)
def fX1_findForm_b25 (l3 : Int32) (l6 : Int32) (w7 : Wd) : Option ((Int32 × Wd) ⊕ (Wd)) :=
  if (2 : Int32) < l6 then
    some (.inr w7)
  else
    lt_ (upI w7 3 2 l3) fun (w9 : Wd) =>
    lt_ (upI w9 3 3 l6) fun (w10 : Wd) =>
    (fX1_countOf 3 w10).bind fun q13 => un2 q13 fun (r12 : Int32) (w11 : Wd) =>
    lt_ (fX1_consider w11 ((10 * l3) + l6) r12) fun (w14 : Wd) =>
    lt_ (l6 + 1) fun (v15 : Int32) =>
    some (.inl (v15, w14))
def fX1_findForm_b18 (l3 : Int32) (w4 : Wd) : Option ((Int32 × Wd) ⊕ (Wd)) :=
  if (2 : Int32) < l3 then
    some (.inr w4)
  else
    (iter (fun s : Int32 × Wd => fX1_findForm_b25 l3 s.1 s.2) FU (1, w4)).bind fun (w17 : Wd) =>
    lt_ (l3 + 1) fun (v18 : Int32) =>
    some (.inl (v18, w17))
def fX1_findForm (w : Wd) : Option (Wd) :=
  lt_ (fX1_startSearch w (-1)) fun (w1 : Wd) =>
  lt_ (fX2_takeFrom 3 1 w1) fun (w2 : Wd) =>
  (iter (fun s : Int32 × Wd => fX1_findForm_b18 s.1 s.2) FU (0, w2)).bind fun (w20 : Wd) =>
  some w20
def fX9_forms (w : Wd) (a1 : Int32) : Option (Int32 × Wd) :=
  if (fX9_isOutside a1 1) = 0 then
    (fX1_findForm w).bind fun (w1 : Wd) =>
    if a1 = 0 then
      some (w1.1 10 0, w1)
    else
      some (w1.1 10 1, w1)
  else
    (fX9_refuse w (-2)).bind fun q4 => un2 q4 fun (r3 : Int32) (w2 : Wd) =>
    some (r3, w2)
def fX6_stillAt (w : Wd) (a1 : Int32) : Option (Int32 × Wd) :=
  gd_ (ib a1 25) <|
  lt_ (w.1 27 a1.toNatClampNeg) fun (v2 : Int32) =>
  lt_ (upI w 27 (a1.toNatClampNeg) 0) fun (w3 : Wd) =>
  some (v2, w3)
def fX6_calmPlace_b16 (l5 : Int32) (l6 : Int32) (l7 : Int32) (w8 : Wd) : Option ((Int32 × Int32 × Int32 × Wd) ⊕ (Int32 × Wd)) :=
  if (w8.1 1 4) ≤ l7 then
    some (.inr (l6, w8))
  else
    (fX6_stillAt w8 l7).bind fun q12 => un2 q12 fun (r11 : Int32) (w10 : Wd) =>
    (fX8_atDoorFrom w10 0 (w10.1 1 1)).bind fun q15 => un2 q15 fun (r14 : Int32) (w13 : Wd) =>
    lt_ (fJ6_bitCount_0f7a4 r14) fun (v16 : Int32) =>
    gd_ (ib l7 25) <|
    lt_ (upI w13 27 (l7.toNatClampNeg) r11) fun (w17 : Wd) =>
    if v16 ≤ l5 then
      lt_ (l7 + 1) fun (v19 : Int32) =>
      some (.inl (l5, l6, v19, w17))
    else
      lt_ (l7 + 1) fun (v20 : Int32) =>
      some (.inl (v16, l7, v20, w17))
def fX6_calmPlace (w : Wd) : Option (Int32 × Wd) :=
  (fX6_startFromNow w).bind fun q3 => un2 q3 fun (r2 : Int32) (w1 : Wd) =>
  lt_ (w1.1 1 5) fun (v4 : Int32) =>
  (iter (fun s : Int32 × Int32 × Int32 × Wd => fX6_calmPlace_b16 s.1 s.2.1 s.2.2.1 s.2.2.2) FU (r2, (-9), v4, w1)).bind fun x21 => un2 x21 fun (l22 : Int32) (w23 : Wd) =>
  some (l22, w23)
def fX6_calmPair_b39 (l7 : Int32) (l14 : Int32) (l15 : Int32) (l16 : Int32) (w17 : Wd) : Option ((Int32 × Int32 × Int32 × Wd) ⊕ (Int32 × Int32 × Wd)) :=
  if (w17.1 1 4) ≤ l16 then
    some (.inr (l14, l15, w17))
  else
    (fX6_stillAt w17 l16).bind fun q21 => un2 q21 fun (r20 : Int32) (w19 : Wd) =>
    (fX8_atDoorFrom w19 0 (w19.1 1 1)).bind fun q24 => un2 q24 fun (r23 : Int32) (w22 : Wd) =>
    lt_ (fJ6_bitCount_0f7a4 r23) fun (v25 : Int32) =>
    gd_ (ib l16 25) <|
    lt_ (upI w22 27 (l16.toNatClampNeg) r20) fun (w26 : Wd) =>
    if v25 ≤ l14 then
      lt_ (l16 + 1) fun (v28 : Int32) =>
      some (.inl (l14, l15, v28, w26))
    else
      lt_ ((100 * l7) + l16) fun (v29 : Int32) =>
      lt_ (l16 + 1) fun (v30 : Int32) =>
      some (.inl (v25, v29, v30, w26))
def fX6_calmPair_b16 (l5 : Int32) (l6 : Int32) (l7 : Int32) (w8 : Wd) : Option ((Int32 × Int32 × Int32 × Wd) ⊕ (Int32 × Wd)) :=
  if (w8.1 1 4) ≤ l7 then
    some (.inr (l6, w8))
  else
    (fX6_stillAt w8 l7).bind fun q12 => un2 q12 fun (r11 : Int32) (w10 : Wd) =>
    lt_ (l7 + 1) fun (v13 : Int32) =>
    (iter (fun s : Int32 × Int32 × Int32 × Wd => fX6_calmPair_b39 l7 s.1 s.2.1 s.2.2.1 s.2.2.2) FU (l5, l6, v13, w10)).bind fun x31 => un3 x31 fun (l32 : Int32) (l33 : Int32) (w34 : Wd) =>
    gd_ (ib l7 25) <|
    lt_ (upI w34 27 (l7.toNatClampNeg) r11) fun (w35 : Wd) =>
    lt_ (l7 + 1) fun (v37 : Int32) =>
    some (.inl (l32, l33, v37, w35))
def fX6_calmPair (w : Wd) : Option (Int32 × Wd) :=
  (fX6_startFromNow w).bind fun q3 => un2 q3 fun (r2 : Int32) (w1 : Wd) =>
  lt_ (w1.1 1 5) fun (v4 : Int32) =>
  (iter (fun s : Int32 × Int32 × Int32 × Wd => fX6_calmPair_b16 s.1 s.2.1 s.2.2.1 s.2.2.2) FU (r2, (-9), v4, w1)).bind fun x38 => un2 x38 fun (l39 : Int32) (w40 : Wd) =>
  some (l39, w40)
def fX9_calms (w : Wd) (a1 : Int32) : Option (Int32 × Wd) :=
  if (fX9_isOutside a1 1) = 0 then
    if a1 = 0 then
      (fX6_calmPlace w).bind fun q3 => un2 q3 fun (r2 : Int32) (w1 : Wd) =>
      some (r2, w1)
    else
      (fX6_calmPair w).bind fun q6 => un2 q6 fun (r5 : Int32) (w4 : Wd) =>
      some (r5, w4)
  else
    (fX9_refuse w (-2)).bind fun q9 => un2 q9 fun (r8 : Int32) (w7 : Wd) =>
    some (r8, w7)
def fX1_farthestDoor_b60 (v5 : Int32) (w4 : Wd) (l6 : Int32) : Option ((Int32) ⊕ (Int32 × Wd)) :=
  if l6 < v5 then
    some (.inr ((-9), w4))
  else
    gd_ (ib (l6 - (w4.1 1 5)) 25) <|
    if (w4.1 26 (l6 - (w4.1 1 5)).toNatClampNeg) = 0 then
      lt_ (l6 + (-1)) fun (v8 : Int32) =>
      some (.inl v8)
    else
      some (.inr (l6, w4))
def fX1_farthestDoor (w : Wd) : Option (Int32 × Wd) :=
  lt_ (fX2_takeFrom 3 1 w) fun (w1 : Wd) =>
  lt_ (upI w1 3 4 24) fun (w2 : Wd) =>
  (fX8_setOut 3 w2).bind fun (w3 : Wd) =>
  (fX8_walkOn w3 (w3.1 3 1)).bind fun (w4 : Wd) =>
  lt_ (jmax 1 (w4.1 1 5)) fun (v5 : Int32) =>
  iter (fun s : Int32 => fX1_farthestDoor_b60 v5 w4 s) FU (24 : Int32)
def fX9_farthest (w : Wd) : Option (Int32 × Wd) :=
  (fX1_farthestDoor w).bind fun q3 => un2 q3 fun (r2 : Int32) (w1 : Wd) =>
  some (r2, w1)
def fX1_countTurned_b13 (l2 : Int32) (w3 : Wd) : Option ((Int32 × Wd) ⊕ (Wd)) :=
  if (w3.1 1 0) ≤ l2 then
    some (.inr w3)
  else
    (fX2_copyOne 3 1 w3 l2 (((w3.1 1 0) - 1) - l2)).bind fun (w5 : Wd) =>
    lt_ (l2 + 1) fun (v6 : Int32) =>
    some (.inl (v6, w5))
def fX1_countTurned (w : Wd) : Option (Int32 × Wd) :=
  lt_ (fX2_takeFrom 3 1 w) fun (w1 : Wd) =>
  (iter (fun s : Int32 × Wd => fX1_countTurned_b13 s.1 s.2) FU (0, w1)).bind fun (w8 : Wd) =>
  (fX1_countOf 3 w8).bind fun q11 => un2 q11 fun (r10 : Int32) (w9 : Wd) =>
  some (r10, w9)
def fX9_turned (w : Wd) : Option (Int32 × Wd) :=
  (fX1_countTurned w).bind fun q3 => un2 q3 fun (r2 : Int32) (w1 : Wd) =>
  some (r2, w1)
def fX4_handOn_b2 (a1 : Int32) (l1 : Int32) (w2 : Wd) : Option ((Int32 × Wd) ⊕ (Wd)) :=
  if (w2.1 4 0) ≤ l1 then
    some (.inr w2)
  else
    if (fX9_hasBit a1 l1) = 0 then
      lt_ (l1 + 1) fun (v4 : Int32) =>
      some (.inl (v4, w2))
    else
      gd_ (ib l1 8) <|
      gd_ (ib (w2.1 25 l1.toNatClampNeg) 8) <|
      lt_ (upI w2 35 (l1.toNatClampNeg) (w2.1 35 (w2.1 25 l1.toNatClampNeg).toNatClampNeg)) fun (w7 : Wd) =>
      lt_ (l1 + 1) fun (v8 : Int32) =>
      some (.inl (v8, w7))
def fX4_handOn (w : Wd) (a1 : Int32) : Option (Wd) :=
  (iter (fun s : Int32 × Wd => fX4_handOn_b2 a1 s.1 s.2) FU (0, w)).bind fun (w10 : Wd) =>
  some w10
def fX4_originOf_b13 (l2 : Int32) (w3 : Wd) : Option ((Int32 × Wd) ⊕ (Wd)) :=
  if (8 : Int32) ≤ l2 then
    some (.inr w3)
  else
    gd_ (ib l2 8) <|
    lt_ (upI w3 35 (l2.toNatClampNeg) l2) fun (w5 : Wd) =>
    lt_ (l2 + 1) fun (v7 : Int32) =>
    some (.inl (v7, w5))
def fX4_originOf_b42 (l11 : Int32) (l12 : Int32) (w13 : Wd) : Option ((Int32 × Int32 × Wd) ⊕ (Int32 × Wd)) :=
  if (w13.1 4 4) ≤ l12 then
    some (.inr (l11, w13))
  else
    (fX8_minuteAt w13 ((w13.1 4 3) + l12) l11).bind fun q17 => un2 q17 fun (r16 : Int32) (w15 : Wd) =>
    (fX4_handOn w15 (w15.1 4 6)).bind fun (w18 : Wd) =>
    lt_ (l12 + 1) fun (v19 : Int32) =>
    some (.inl (r16, v19, w18))
def fX4_originOf (w : Wd) (a1 : Int32) : Option (Int32 × Wd) :=
  (fX8_setOut 1 w).bind fun (w1 : Wd) =>
  (iter (fun s : Int32 × Wd => fX4_originOf_b13 s.1 s.2) FU (0, w1)).bind fun (w9 : Wd) =>
  lt_ (w9.1 1 1) fun (v10 : Int32) =>
  (iter (fun s : Int32 × Int32 × Wd => fX4_originOf_b42 s.1 s.2.1 s.2.2) FU (v10, 0, w9)).bind fun x20 => un2 x20 fun (l21 : Int32) (w22 : Wd) =>
  if (fX9_hasBit l21 a1) = 0 then
    some ((-9), w22)
  else
    gd_ (ib a1 8) <|
    some (w22.1 35 a1.toNatClampNeg, w22)
def fX9_flame (w : Wd) (a1 : Int32) : Option (Int32 × Wd) :=
  if (fX2_hasOne 1 w a1) = 0 then
    (fX9_refuse w (-1)).bind fun q3 => un2 q3 fun (r2 : Int32) (w1 : Wd) =>
    some (r2, w1)
  else
    (fX4_originOf w a1).bind fun q6 => un2 q6 fun (r5 : Int32) (w4 : Wd) =>
    some (r5, w4)
def fX4_timesOut_b24 (a1 : Int32) (l3 : Int32) (l4 : Int32) (l5 : Int32) (w6 : Wd) : Option ((Int32 × Int32 × Int32 × Wd) ⊕ (Int32 × Wd)) :=
  if (w6.1 4 4) ≤ l5 then
    some (.inr (l3, w6))
  else
    (fX8_minuteAt w6 ((w6.1 4 3) + l5) l4).bind fun q10 => un2 q10 fun (r9 : Int32) (w8 : Wd) =>
    if (fX9_hasBit (w8.1 4 5) a1) = 0 then
      lt_ (l5 + 1) fun (v11 : Int32) =>
      some (.inl (l3, r9, v11, w8))
    else
      lt_ (l3 + 1) fun (v12 : Int32) =>
      lt_ (l5 + 1) fun (v13 : Int32) =>
      some (.inl (v12, r9, v13, w8))
def fX4_timesOut (w : Wd) (a1 : Int32) : Option (Int32 × Wd) :=
  (fX8_setOut 1 w).bind fun (w1 : Wd) =>
  lt_ (w1.1 1 1) fun (v2 : Int32) =>
  (iter (fun s : Int32 × Int32 × Int32 × Wd => fX4_timesOut_b24 a1 s.1 s.2.1 s.2.2.1 s.2.2.2) FU (0, v2, 0, w1)).bind fun x14 => un2 x14 fun (l15 : Int32) (w16 : Wd) =>
  some (l15, w16)
def fX9_out (w : Wd) (a1 : Int32) : Option (Int32 × Wd) :=
  if (fX2_hasOne 1 w a1) = 0 then
    (fX9_refuse w (-1)).bind fun q3 => un2 q3 fun (r2 : Int32) (w1 : Wd) =>
    some (r2, w1)
  else
    (fX4_timesOut w a1).bind fun q6 => un2 q6 fun (r5 : Int32) (w4 : Wd) =>
    some (r5, w4)
def fX4_timesLit_b23 (l3 : Int32) (l4 : Int32) (l5 : Int32) (w6 : Wd) : Option ((Int32 × Int32 × Int32 × Wd) ⊕ (Int32 × Wd)) :=
  if (w6.1 4 4) ≤ l5 then
    some (.inr (l3, w6))
  else
    (fX8_minuteAt w6 ((w6.1 4 3) + l5) l4).bind fun q10 => un2 q10 fun (r9 : Int32) (w8 : Wd) =>
    lt_ (l3 + (fJ6_bitCount_0f7a4 (w8.1 4 6))) fun (v11 : Int32) =>
    lt_ (l5 + 1) fun (v12 : Int32) =>
    some (.inl (v11, r9, v12, w8))
def fX4_timesLit (w : Wd) : Option (Int32 × Wd) :=
  (fX8_setOut 1 w).bind fun (w1 : Wd) =>
  lt_ (w1.1 1 1) fun (v2 : Int32) =>
  (iter (fun s : Int32 × Int32 × Int32 × Wd => fX4_timesLit_b23 s.1 s.2.1 s.2.2.1 s.2.2.2) FU (0, v2, 0, w1)).bind fun x13 => un2 x13 fun (l14 : Int32) (w15 : Wd) =>
  some (l14, w15)
def fX9_again (w : Wd) : Option (Int32 × Wd) :=
  (fX4_timesLit w).bind fun q3 => un2 q3 fun (r2 : Int32) (w1 : Wd) =>
  some (r2, w1)
def fX1_fillGame_b20 (l2 : Int32) (l5 : Int32) (w6 : Wd) : Option ((Int32 × Wd) ⊕ (Wd)) :=
  if (2 : Int32) < l5 then
    some (.inr w6)
  else
    lt_ (upI w6 3 2 l2) fun (w8 : Wd) =>
    (fX2_blowFrom 3 w8 l5).bind fun (w9 : Wd) =>
    (fX1_countOf 3 w9).bind fun q12 => un2 q12 fun (r11 : Int32) (w10 : Wd) =>
    gd_ (ib ((3 * l2) + l5) 9) <|
    lt_ (upI w10 38 (((3 * l2) + l5).toNatClampNeg) r11) fun (w13 : Wd) =>
    lt_ (l5 + 1) fun (v15 : Int32) =>
    some (.inl (v15, w13))
def fX1_fillGame_b13 (l2 : Int32) (w3 : Wd) : Option ((Int32 × Wd) ⊕ (Wd)) :=
  if (2 : Int32) < l2 then
    some (.inr w3)
  else
    (iter (fun s : Int32 × Wd => fX1_fillGame_b20 l2 s.1 s.2) FU (0, w3)).bind fun (w17 : Wd) =>
    lt_ (l2 + 1) fun (v18 : Int32) =>
    some (.inl (v18, w17))
def fX1_fillGame (w : Wd) : Option (Wd) :=
  lt_ (fX2_takeFrom 3 1 w) fun (w1 : Wd) =>
  (iter (fun s : Int32 × Wd => fX1_fillGame_b13 s.1 s.2) FU (0, w1)).bind fun (w20 : Wd) =>
  some w20
def fX1_fewestOfForm (w : Wd) (a1 : Int32) : Option (Int32) :=
  lt_ (3 * a1) fun (v1 : Int32) =>
  gd_ (ib v1 9) <|
  gd_ (ib (v1 + 1) 9) <|
  gd_ (ib (v1 + 2) 9) <|
  some (jmin (w.1 38 v1.toNatClampNeg) (jmin (w.1 38 (v1 + 1).toNatClampNeg) (w.1 38 (v1 + 2).toNatClampNeg)))
def fX1_mostOfSide (w : Wd) (a1 : Int32) : Option (Int32) :=
  gd_ (ib a1 9) <|
  gd_ (ib (a1 + 3) 9) <|
  gd_ (ib (a1 + 6) 9) <|
  some (jmax (w.1 38 a1.toNatClampNeg) (jmax (w.1 38 (a1 + 3).toNatClampNeg) (w.1 38 (a1 + 6).toNatClampNeg)))
def fX1_steadyPair_b9 (l1 : Int32) (w : Wd) (l2 : Int32) : Option ((Int32) ⊕ (((Int32) ⊕ (Int32)))) :=
  if (2 : Int32) < l2 then
    lt_ (l1 + 1) fun (v3 : Int32) =>
    some (.inr (.inl v3))
  else
    gd_ (ib ((3 * l1) + l2) 9) <|
    lt_ (w.1 38 ((3 * l1) + l2).toNatClampNeg) fun (v5 : Int32) =>
    (fX1_fewestOfForm w l1).bind fun (r6 : Int32) =>
    if v5 = r6 then
      (fX1_mostOfSide w l2).bind fun (r7 : Int32) =>
      if v5 = r7 then
        some (.inr (.inr ((10 * l1) + l2)))
      else
        lt_ (l2 + 1) fun (v8 : Int32) =>
        some (.inl v8)
    else
      lt_ (l2 + 1) fun (v9 : Int32) =>
      some (.inl v9)
def fX1_steadyPair_b2 (w : Wd) (l1 : Int32) : Option ((Int32) ⊕ (Int32)) :=
  if (2 : Int32) < l1 then
    some (.inr ((-9) : Int32))
  else
    iter (fun s : Int32 => fX1_steadyPair_b9 l1 w s) FU (0 : Int32)
def fX1_steadyPair (w : Wd) : Option (Int32) :=
  iter (fun s : Int32 => fX1_steadyPair_b2 w s) FU (0 : Int32)
def fX1_sureNumber (w : Wd) : Option (Int32) :=
  (fX1_fewestOfForm w 0).bind fun (r1 : Int32) =>
  (fX1_fewestOfForm w 1).bind fun (r2 : Int32) =>
  (fX1_fewestOfForm w 2).bind fun (r3 : Int32) =>
  some (jmax r1 (jmax r2 r3))
def fX1_knownNumber (w : Wd) : Option (Int32) :=
  (fX1_mostOfSide w 0).bind fun (r1 : Int32) =>
  (fX1_mostOfSide w 1).bind fun (r2 : Int32) =>
  (fX1_mostOfSide w 2).bind fun (r3 : Int32) =>
  some (jmin r1 (jmin r2 r3))
def fX9_game (w : Wd) (a1 : Int32) : Option (Int32 × Wd) :=
  if (fX9_isOutside a1 2) = 0 then
    (fX1_fillGame w).bind fun (w1 : Wd) =>
    if a1 = 0 then
      (fX1_steadyPair w1).bind fun (r2 : Int32) =>
      some (r2, w1)
    else
      if a1 = 1 then
        (fX1_sureNumber w1).bind fun (r3 : Int32) =>
        some (r3, w1)
      else
        (fX1_knownNumber w1).bind fun (r4 : Int32) =>
        some (r4, w1)
  else
    (fX9_refuse w (-2)).bind fun q7 => un2 q7 fun (r6 : Int32) (w5 : Wd) =>
    some (r6, w5)
def fX1_kindsLit_b4 (a1 : Int32) (l1 : Int32) (l2 : Int32) (w3 : Wd) : Option ((Int32 × Int32 × Wd) ⊕ (Int32 × Wd)) :=
  if (6 : Int32) < l2 then
    some (.inr (l1, w3))
  else
    lt_ (fX2_takeFrom 3 1 w3) fun (w5 : Wd) =>
    (fX2_become 3 w5 a1 l2).bind fun (w6 : Wd) =>
    (fX1_doorOf 3 w6).bind fun q9 => un2 q9 fun (r8 : Int32) (w7 : Wd) =>
    if (fX9_hasBit r8 a1) = 0 then
      lt_ (l2 + 1) fun (v10 : Int32) =>
      some (.inl (l1, v10, w7))
    else
      lt_ (l1 ||| ((1 : Int32) <<< (l2 &&& 31))) fun (v11 : Int32) =>
      lt_ (l2 + 1) fun (v12 : Int32) =>
      some (.inl (v11, v12, w7))
def fX1_kindsLit (w : Wd) (a1 : Int32) : Option (Int32 × Wd) :=
  (iter (fun s : Int32 × Int32 × Wd => fX1_kindsLit_b4 a1 s.1 s.2.1 s.2.2) FU (0, 0, w)).bind fun x13 => un2 x13 fun (l14 : Int32) (w15 : Wd) =>
  some (l14, w15)
def fX9_heirs (w : Wd) (a1 : Int32) : Option (Int32 × Wd) :=
  if (fX2_hasOne 1 w a1) = 0 then
    (fX9_refuse w (-1)).bind fun q3 => un2 q3 fun (r2 : Int32) (w1 : Wd) =>
    some (r2, w1)
  else
    (fX1_kindsLit w a1).bind fun q6 => un2 q6 fun (r5 : Int32) (w4 : Wd) =>
    some (r5, w4)
def fX4_widestGap_b7 (w : Wd) (a1 : Int32) (l1 : Int32) (l2 : Int32) (l3 : Int32) : Option ((Int32 × Int32 × Int32) ⊕ (Int32)) :=
  if (w.1 4 0) ≤ l3 then
    some (.inr l1)
  else
    lt_ (if (fX9_hasBit a1 l3) = 0 then
      l2 + 1
    else
      (0 : Int32) : Int32) fun (v5 : Int32) =>
    lt_ (jmax l1 v5) fun (v6 : Int32) =>
    lt_ (l3 + 1) fun (v7 : Int32) =>
    some (.inl (v6, v5, v7))
def fX4_widestGap (w : Wd) (a1 : Int32) : Option (Int32) :=
  (iter (fun s : Int32 × Int32 × Int32 => fX4_widestGap_b7 w a1 s.1 s.2.1 s.2.2) FU (0, 0, 0)).bind fun (l9 : Int32) =>
  some l9
def fX4_findGap_b17 (l4 : Int32) (w5 : Wd) : Option ((Int32 × Wd) ⊕ (Wd)) :=
  if (w5.1 4 4) < l4 then
    some (.inr w5)
  else
    gd_ (ib l4 25) <|
    (fX4_widestGap w5 (w5.1 26 l4.toNatClampNeg)).bind fun (r8 : Int32) =>
    if r8 ≤ (w5.1 8 2) then
      lt_ (l4 + 1) fun (v9 : Int32) =>
      some (.inl (v9, w5))
    else
      lt_ (upI w5 8 2 r8) fun (w10 : Wd) =>
      lt_ (upI w10 8 3 l4) fun (w11 : Wd) =>
      lt_ (l4 + 1) fun (v12 : Int32) =>
      some (.inl (v12, w11))
def fX4_findGap (w : Wd) : Option (Wd) :=
  (fX4_walkFromNow w).bind fun (w1 : Wd) =>
  lt_ (upI w1 8 2 0) fun (w2 : Wd) =>
  lt_ (upI w2 8 3 (-9)) fun (w3 : Wd) =>
  (iter (fun s : Int32 × Wd => fX4_findGap_b17 s.1 s.2) FU (1, w3)).bind fun (w14 : Wd) =>
  some w14
def fX9_gaps (w : Wd) (a1 : Int32) : Option (Int32 × Wd) :=
  if (fX9_isOutside a1 1) = 0 then
    (fX4_findGap w).bind fun (w1 : Wd) =>
    if a1 = 0 then
      some (w1.1 8 2, w1)
    else
      some (w1.1 8 3, w1)
  else
    (fX9_refuse w (-2)).bind fun q4 => un2 q4 fun (r3 : Int32) (w2 : Wd) =>
    some (r3, w2)
def fX6_struck (w : Wd) (a1 : Int32) : Int32 :=
  lt_ ((w.1 4 1) &&& (a1 ^^^ (-1))) fun (v1 : Int32) =>
  a1 ||| (v1 &&& (-v1))
def fX6_hasOneMatch_b6 (a3 : Int32) (l1 : Int32) (l2 : Int32) (w3 : Wd) : Option ((Int32 × Int32 × Wd) ⊕ (Int32 × Wd)) :=
  if (w3.1 4 4) ≤ l2 then
    some (.inr (0, w3))
  else
    (fX8_atDoorFrom w3 l2 (fX6_struck w3 l1)).bind fun q6 => un2 q6 fun (r5 : Int32) (w4 : Wd) =>
    if r5 = 0 then
      (fX8_minuteAt w4 ((w4.1 4 3) + l2) l1).bind fun q9 => un2 q9 fun (r8 : Int32) (w7 : Wd) =>
      lt_ (l2 + 1) fun (v10 : Int32) =>
      some (.inl (r8, v10, w7))
    else
      gd_ (ib a3 3) <|
      lt_ (upI w4 36 (a3.toNatClampNeg) l2) fun (w11 : Wd) =>
      some (.inr (1, w11))
def fX6_hasOneMatch (w : Wd) (a1 : Int32) (a2 : Int32) (a3 : Int32) : Option (Int32 × Wd) :=
  iter (fun s : Int32 × Int32 × Wd => fX6_hasOneMatch_b6 a3 s.1 s.2.1 s.2.2) FU (a2, a1, w)
def fX6_hasTwoMatches_b6 (a3 : Int32) (l1 : Int32) (l2 : Int32) (w3 : Wd) : Option ((Int32 × Int32 × Wd) ⊕ (Int32 × Wd)) :=
  if (w3.1 4 4) ≤ l2 then
    some (.inr (0, w3))
  else
    (fX8_minuteAt w3 ((w3.1 4 3) + l2) (fX6_struck w3 l1)).bind fun q6 => un2 q6 fun (r5 : Int32) (w4 : Wd) =>
    (fX6_hasOneMatch w4 (l2 + 1) r5 (a3 + 1)).bind fun q9 => un2 q9 fun (r8 : Int32) (w7 : Wd) =>
    if r8 = 0 then
      (fX8_minuteAt w7 ((w7.1 4 3) + l2) l1).bind fun q12 => un2 q12 fun (r11 : Int32) (w10 : Wd) =>
      lt_ (l2 + 1) fun (v13 : Int32) =>
      some (.inl (r11, v13, w10))
    else
      gd_ (ib a3 3) <|
      lt_ (upI w7 36 (a3.toNatClampNeg) l2) fun (w14 : Wd) =>
      some (.inr (1, w14))
def fX6_hasTwoMatches (w : Wd) (a1 : Int32) (a2 : Int32) (a3 : Int32) : Option (Int32 × Wd) :=
  iter (fun s : Int32 × Int32 × Wd => fX6_hasTwoMatches_b6 a3 s.1 s.2.1 s.2.2) FU (a2, a1, w)
def fX6_fewestMatches_b47 (l10 : Int32) (w11 : Wd) : Option ((Int32 × Wd) ⊕ (Int32 × Wd)) :=
  if (w11.1 4 4) ≤ l10 then
    some (.inr ((-9), w11))
  else
    gd_ (ib l10 25) <|
    (fX8_minuteAt w11 ((w11.1 4 3) + l10) (fX6_struck w11 (w11.1 26 l10.toNatClampNeg))).bind fun q15 => un2 q15 fun (r14 : Int32) (w13 : Wd) =>
    (fX6_hasTwoMatches w13 (l10 + 1) r14 1).bind fun q18 => un2 q18 fun (r17 : Int32) (w16 : Wd) =>
    if r17 = 0 then
      lt_ (l10 + 1) fun (v19 : Int32) =>
      some (.inl (v19, w16))
    else
      lt_ (upI w16 36 0 l10) fun (w20 : Wd) =>
      some (.inr (3, w20))
def fX6_fewestMatches (w : Wd) : Option (Int32 × Wd) :=
  (fX6_startFromNow w).bind fun q3 => un2 q3 fun (r2 : Int32) (w1 : Wd) =>
  if r2 ≤ 0 then
    (fX6_hasOneMatch w1 0 (w1.1 1 1) 0).bind fun q6 => un2 q6 fun (r5 : Int32) (w4 : Wd) =>
    if r5 = 0 then
      (fX6_hasTwoMatches w4 0 (w4.1 1 1) 0).bind fun q9 => un2 q9 fun (r8 : Int32) (w7 : Wd) =>
      if r8 = 0 then
        iter (fun s : Int32 × Wd => fX6_fewestMatches_b47 s.1 s.2) FU (0, w7)
      else
        some (2, w7)
    else
      some (1, w4)
  else
    some (0, w1)
def fX9_matches (w : Wd) (a1 : Int32) : Option (Int32 × Wd) :=
  if ((-1) : Int32) ≤ a1 then
    (fX6_fewestMatches w).bind fun q3 => un2 q3 fun (r2 : Int32) (w1 : Wd) =>
    if a1 = (-1) then
      some (r2, w1)
    else
      if r2 ≤ a1 then
        some ((-9), w1)
      else
        if (3 : Int32) ≤ a1 then
          some ((-9), w1)
        else
          gd_ (ib a1 3) <|
          some (w1.1 36 a1.toNatClampNeg, w1)
  else
    (fX9_refuse w (-4)).bind fun q7 => un2 q7 fun (r6 : Int32) (w5 : Wd) =>
    some (r6, w5)
def fX9_image (w : Wd) : Int32 × Wd :=
  lt_ (fX2_takeFrom 2 1 w) fun (w1 : Wd) =>
  lt_ (upI w1 0 2 1) fun (w2 : Wd) =>
  (w2.1 1 5, w2)
def fX9_restore (w : Wd) : Option (Int32 × Wd) :=
  if (w.1 0 2) = 0 then
    (fX9_refuse w (-3)).bind fun q3 => un2 q3 fun (r2 : Int32) (w1 : Wd) =>
    some (r2, w1)
  else
    lt_ (fX2_takeFrom 1 2 w) fun (w4 : Wd) =>
    lt_ (fX5_forget w4) fun (w5 : Wd) =>
    some (w5.1 1 5, w5)
def fX9_count_j22 (a1 : Int32) (w : Wd) : Option (Int32) :=
  if a1 = 0 then
    some (w.1 1 0)
  else if a1 = 1 then
    some (fJ6_bitCount_0f7a4 (w.1 1 1))
  else if a1 = 2 then
    some (w.1 1 5)
  else if a1 = 3 then
    some (w.1 1 6)
  else if a1 = 4 then
    some (w.1 1 2)
  else if a1 = 5 then
    some (w.1 1 3)
  else if a1 = 6 then
    some (w.1 1 4)
  else if a1 = 7 then
    some (w.1 6 0)
  else if a1 = 8 then
    some (w.1 7 0)
  else if a1 = 9 then
    (fX2_lightOf 1 w (w.1 1 1)).bind fun (r11 : Int32) =>
    some r11
  else if a1 = 10 then
    some (w.1 5 0)
  else 
    some ((-9) : Int32)
def fX9_count (w : Wd) (a1 : Int32) : Option (Int32) :=
  if a1 < 11 then
    fX9_count_j22 a1 w
  else
    if (16 : Int32) < a1 then
      fX9_count_j22 a1 w
    else
      gd_ (ib (a1 - 10) 7) <|
      some (w.1 12 (a1 - 10).toNatClampNeg)
def fX10_bound (a0 : Int32) (a1 : Int32) (a2 : Int32) : Int32 :=
  if a1 ≤ a0 then
    if a0 ≤ a2 then
      (0 : Int32)
    else
      ((-6) : Int32)
  else
    ((-4) : Int32)
def fX10_no (w : Wd) (a1 : Int32) : Option (Int32 × Wd) :=
  gd_ (ib (-a1) 7) <|
  lt_ (upI w 43 ((-a1).toNatClampNeg) ((w.1 43 (-a1).toNatClampNeg) + 1)) fun (w2 : Wd) =>
  some (a1, w2)
def fX10_feed_j25 (a1 : Int32) (w3 : Wd) (l2 : Int32) : Option (Int32 × Wd) :=
  if l2 = 0 then
    gd_ (ib (w3.1 42 14) 96) <|
    lt_ (upI w3 49 ((w3.1 42 14).toNatClampNeg) a1) fun (w4 : Wd) =>
    lt_ (upI w4 42 14 ((w4.1 42 14) + 1)) fun (w6 : Wd) =>
    some (w6.1 42 14, w6)
  else
    (fX10_no w3 l2).bind fun q9 => un2 q9 fun (r8 : Int32) (w7 : Wd) =>
    some (r8, w7)
def fX10_feed (w : Wd) (a1 : Int32) : Option (Int32 × Wd) :=
  lt_ (fX10_bound a1 0 255) fun (v1 : Int32) =>
  if v1 = 0 then
    if (w.1 42 14) = 96 then
      fX10_feed_j25 a1 w (-6)
    else
      fX10_feed_j25 a1 w v1
  else
    fX10_feed_j25 a1 w v1
def fX10_next (w : Wd) : Option (Int32) :=
  if (w.1 42 14) ≤ (w.1 42 15) then
    some ((-1) : Int32)
  else
    gd_ (ib (w.1 42 15) 96) <|
    some (w.1 49 (w.1 42 15).toNatClampNeg)
def fX10_isIn (a0 : Int32) (a1 : Int32) (a2 : Int32) : Int32 :=
  if a0 < a1 then
    (0 : Int32)
  else
    if a2 < a0 then
      (0 : Int32)
    else
      (1 : Int32)
def fX10_readsDigits_b5 (a2 : Int32) (a1 : Int32) (l1 : Int32) (l2 : Int32) (w3 : Wd) : Option ((Int32 × Int32 × Wd) ⊕ (Int32 × Wd)) :=
  if a2 ≤ l2 then
    gd_ (ib a1 144) <|
    lt_ (upI w3 52 (a1.toNatClampNeg) l1) fun (w4 : Wd) =>
    some (.inr (1, w4))
  else
    (fX10_next w3).bind fun (r6 : Int32) =>
    if (fX10_isIn r6 48 57) = 0 then
      some (.inr (0, w3))
    else
      (fX10_next w3).bind fun (r7 : Int32) =>
      lt_ (((10 * l1) + r7) - 48) fun (v8 : Int32) =>
      lt_ (upI w3 42 15 ((w3.1 42 15) + 1)) fun (w9 : Wd) =>
      lt_ (l2 + 1) fun (v10 : Int32) =>
      some (.inl (v8, v10, w9))
def fX10_readsDigits (w : Wd) (a1 : Int32) (a2 : Int32) : Option (Int32 × Wd) :=
  iter (fun s : Int32 × Int32 × Wd => fX10_readsDigits_b5 a2 a1 s.1 s.2.1 s.2.2) FU (0, 0, w)
def fX10_readsAll (w : Wd) (a1 : Int32) (a2 : Int32) : Option (Int32 × Wd) :=
  if a1 = 100 then
    (fX10_readsDigits w a2 2).bind fun q4 => un2 q4 fun (r3 : Int32) (w2 : Wd) =>
    gd_ (bz r3) <|
    some (r3, w2)
  else if a1 = 102 then
    (fX10_readsDigits w a2 1).bind fun q9 => un2 q9 fun (r8 : Int32) (w7 : Wd) =>
    if r8 = 0 then
      some (0, w7)
    else
      (fX10_readsDigits w7 (a2 + 1) 1).bind fun q12 => un2 q12 fun (r11 : Int32) (w10 : Wd) =>
      if r11 = 0 then
        some (0, w10)
      else
        some (1, w10)
  else if a1 = 112 then
    (fX10_readsDigits w a2 1).bind fun q16 => un2 q16 fun (r15 : Int32) (w14 : Wd) =>
    if r15 = 0 then
      some (0, w14)
    else
      (fX10_readsDigits w14 (a2 + 1) 1).bind fun q19 => un2 q19 fun (r18 : Int32) (w17 : Wd) =>
      if r18 = 0 then
        some (0, w17)
      else
        (fX10_readsDigits w17 (a2 + 2) 1).bind fun q22 => un2 q22 fun (r21 : Int32) (w20 : Wd) =>
        if r21 = 0 then
          some (0, w20)
        else
          some (1, w20)
  else if a1 = 119 then
    (fX10_readsDigits w a2 2).bind fun q26 => un2 q26 fun (r25 : Int32) (w24 : Wd) =>
    if r25 = 0 then
      some (0, w24)
    else
      (fX10_readsDigits w24 (a2 + 1) 1).bind fun q29 => un2 q29 fun (r28 : Int32) (w27 : Wd) =>
      if r28 = 0 then
        some (0, w27)
      else
        (fX10_readsDigits w27 (a2 + 2) 1).bind fun q32 => un2 q32 fun (r31 : Int32) (w30 : Wd) =>
        if r31 = 0 then
          some (0, w30)
        else
          some (1, w30)
  else 
    (fX10_readsDigits w a2 1).bind fun q35 => un2 q35 fun (r34 : Int32) (w33 : Wd) =>
    gd_ (bz r34) <|
    some (r34, w33)
def fX10_statement_j43 (w3 : Wd) (l2 : Int32) : Option (Int32 × Wd) :=
  gd_ (ib (w3.1 42 16) 48) <|
  lt_ (upI w3 50 ((w3.1 42 16).toNatClampNeg) l2) fun (w4 : Wd) =>
  gd_ (ib (w4.1 42 16) 48) <|
  lt_ (upI w4 51 ((w4.1 42 16).toNatClampNeg) (w4.1 42 15)) fun (w6 : Wd) =>
  lt_ (upI w6 42 15 ((w6.1 42 15) + 1)) fun (w8 : Wd) =>
  (fX10_readsAll w8 l2 (3 * (w8.1 42 16))).bind fun q11 => un2 q11 fun (r10 : Int32) (w9 : Wd) =>
  if r10 = 0 then
    some (0, w9)
  else
    (fX10_next w9).bind fun (r12 : Int32) =>
    if r12 = 59 then
      lt_ (upI w9 42 15 ((w9.1 42 15) + 1)) fun (w13 : Wd) =>
      some (1, w13)
    else
      some (0, w9)
def fX10_statement (w : Wd) : Option (Int32 × Wd) :=
  (fX10_next w).bind fun (r1 : Int32) =>
  if r1 = 112 then
    fX10_statement_j43 w r1
  else
    if r1 = 119 then
      fX10_statement_j43 w r1
    else
      if r1 = 102 then
        fX10_statement_j43 w r1
      else
        if r1 = 100 then
          fX10_statement_j43 w r1
        else
          if r1 = 108 then
            fX10_statement_j43 w r1
          else
            if r1 = 109 then
              fX10_statement_j43 w r1
            else
              some (0, w)
def fX10_passes_j42 (w8 : Wd) (l7 : Int32) : Option ((Int32 × Wd) ⊕ (Wd)) :=
  lt_ (upI w8 42 20 ((w8.1 42 20) + 1)) fun (w9 : Wd) =>
  lt_ (l7 + 1) fun (v10 : Int32) =>
  some (.inl (v10, w9))
def fX10_passes_b2 (n1 : Nat) (i1 : Nat) (l1 : Int32) (w2 : Wd) : Option ((Int32 × Wd) ⊕ (Wd)) :=
  if (Int32.ofNat n1) ≤ l1 then
    some (.inr w2)
  else
    if (w2.1 42 19) = 0 then
      gd_ (ib (w2.1 42 20) 240) <|
      gd_ (ib l1 n1) <|
      lt_ (upI w2 i1 (l1.toNatClampNeg) (w2.1 53 (w2.1 42 20).toNatClampNeg)) fun (w5 : Wd) =>
      fX10_passes_j42 w5 l1
    else
      gd_ (ib l1 n1) <|
      gd_ (ib (w2.1 42 20) 240) <|
      lt_ (upI w2 53 ((w2.1 42 20).toNatClampNeg) (w2.1 i1 l1.toNatClampNeg)) fun (w12 : Wd) =>
      fX10_passes_j42 w12 l1
def fX10_passes (i1 : Nat) (n1 : Nat) (w : Wd) : Option (Wd) :=
  (iter (fun s : Int32 × Wd => fX10_passes_b2 n1 i1 s.1 s.2) FU (0, w)).bind fun (w15 : Wd) =>
  some w15
def fX10_passOne_j38 (w5 : Wd) (l4 : Int32) : Option (Int32 × Wd) :=
  lt_ (upI w5 42 20 ((w5.1 42 20) + 1)) fun (w6 : Wd) =>
  some (l4, w6)
def fX10_passOne (w : Wd) (a1 : Int32) : Option (Int32 × Wd) :=
  (if (w.1 42 19) = 0 then
    gd_ (ib (w.1 42 20) 240) <|
    some (w.1 53 (w.1 42 20).toNatClampNeg)
  else
    some a1 : Option Int32).bind fun (v2 : Int32) =>
  if (w.1 42 19) = 0 then
    fX10_passOne_j38 w v2
  else
    gd_ (ib (w.1 42 20) 240) <|
    lt_ (upI w 53 ((w.1 42 20).toNatClampNeg) a1) fun (w7 : Wd) =>
    fX10_passOne_j38 w7 v2
def fX10_passesAll (w : Wd) (a1 : Int32) (a2 : Int32) : Option (Wd) :=
  lt_ (upI w 42 20 (80 * a1)) fun (w1 : Wd) =>
  gd_ (bz a2) <|
  lt_ (upI w1 42 19 a2) fun (w2 : Wd) =>
  (fX10_passes 44 3 w2).bind fun (w4 : Wd) =>
  (fX10_passes 45 8 w4).bind fun (w5 : Wd) =>
  (fX10_passes 46 8 w5).bind fun (w6 : Wd) =>
  (fX10_passes 47 25 w6).bind fun (w7 : Wd) =>
  (fX10_passes 48 25 w7).bind fun (w8 : Wd) =>
  (fX10_passOne w8 (w8.1 42 6)).bind fun q11 => un2 q11 fun (r10 : Int32) (w9 : Wd) =>
  lt_ (upI w9 42 6 r10) fun (w12 : Wd) =>
  (fX10_passOne w12 (w12.1 42 7)).bind fun q15 => un2 q15 fun (r14 : Int32) (w13 : Wd) =>
  lt_ (upI w13 42 7 r14) fun (w16 : Wd) =>
  (fX10_passOne w16 (w16.1 42 8)).bind fun q19 => un2 q19 fun (r18 : Int32) (w17 : Wd) =>
  lt_ (upI w17 42 8 r18) fun (w20 : Wd) =>
  (fX10_passOne w20 (w20.1 42 9)).bind fun q23 => un2 q23 fun (r22 : Int32) (w21 : Wd) =>
  lt_ (upI w21 42 9 r22) fun (w24 : Wd) =>
  some w24
def fX10_comesOne_j46 (a1 : Int32) (w3 : Wd) : Option (Int32 × Wd) :=
  if (w3.1 42 6) = 8 then
    some (0, w3)
  else
    gd_ (ib a1 144) <|
    gd_ (ib (w3.1 42 6) 8) <|
    lt_ (upI w3 45 ((w3.1 42 6).toNatClampNeg) (w3.1 52 a1.toNatClampNeg)) fun (w5 : Wd) =>
    gd_ (ib (a1 + 1) 144) <|
    gd_ (ib (w5.1 42 6) 8) <|
    lt_ (upI w5 46 ((w5.1 42 6).toNatClampNeg) (w5.1 52 (a1 + 1).toNatClampNeg)) fun (w8 : Wd) =>
    gd_ (ib (a1 + 2) 144) <|
    lt_ (upI w8 42 7 ((w8.1 42 7) ||| ((w8.1 52 (a1 + 2).toNatClampNeg) <<< ((w8.1 42 6) &&& 31)))) fun (w11 : Wd) =>
    lt_ (upI w11 42 6 ((w11.1 42 6) + 1)) fun (w12 : Wd) =>
    some (1, w12)
def fX10_comesOne (w : Wd) (a1 : Int32) : Option (Int32 × Wd) :=
  gd_ (ib a1 144) <|
  if (6 : Int32) < (w.1 52 a1.toNatClampNeg) then
    some (0, w)
  else
    gd_ (ib (a1 + 2) 144) <|
    if (1 : Int32) < (w.1 52 (a1 + 2).toNatClampNeg) then
      some (0, w)
    else
      if (w.1 52 a1.toNatClampNeg) = 6 then
        if (w.1 52 (a1 + 2).toNatClampNeg) = 1 then
          some (0, w)
        else
          fX10_comesOne_j46 a1 w
      else
        fX10_comesOne_j46 a1 w
def fX10_isPerson (w : Wd) (a1 : Int32) : Int32 :=
  if a1 < 0 then
    (0 : Int32)
  else
    if (w.1 42 6) ≤ a1 then
      (0 : Int32)
    else
      (1 : Int32)
def fX10_has (a0 : Int32) (a1 : Int32) : Int32 :=
  if (a0 >>> (a1 &&& 31)) &&& 1 = 1 then
    (1 : Int32)
  else
    (0 : Int32)
def fX10_doorAt (w : Wd) : Int32 :=
  w.1 44 2
def fX10_along_j46 (a1 : Int32) (w : Wd) (l3 : Int32) : Int32 :=
  if (fX10_isPerson w l3) = 0 then
    ((-9) : Int32)
  else
    if l3 = a1 then
      ((-9) : Int32)
    else
      l3
def fX10_along (w : Wd) (a1 : Int32) (a2 : Int32) : Int32 :=
  lt_ (a1 + a2) fun (v1 : Int32) =>
  if (w.1 44 0) = 1 then
    lt_ (if (0 : Int32) ≤ v1 then
      if v1 < (w.1 42 6) then
        v1
      else
        v1 - (w.1 42 6)
    else
      v1 + (w.1 42 6) : Int32) fun (v2 : Int32) =>
    fX10_along_j46 a1 w v2
  else
    fX10_along_j46 a1 w v1
def fX10_coverer (w : Wd) (a1 : Int32) (a2 : Int32) : Option (Int32) :=
  lt_ (if (w.1 44 0) = 2 then
    (2 : Int32)
  else
    (1 : Int32) : Int32) fun (v1 : Int32) =>
  gd_ (ib a2 25) <|
  if (w.1 48 a2.toNatClampNeg) = 2 then
    some ((-9) : Int32)
  else
    lt_ (if (w.1 48 a2.toNatClampNeg) = 0 then
      -v1
    else
      v1 : Int32) fun (v3 : Int32) =>
    some (fX10_along w a1 v3)
def fX10_coverOf (a0 : Int32) : Int32 :=
  if a0 = 2 then
    (0 : Int32)
  else if a0 = 4 then
    (3 : Int32)
  else if a0 = 6 then
    (0 : Int32)
  else 
    (1 : Int32)
def fX10_feltBy (w : Wd) (a1 : Int32) (a2 : Int32) : Option (Int32) :=
  (fX10_coverer w a1 a2).bind fun (r1 : Int32) =>
  gd_ (ib a2 25) <|
  (if (0 : Int32) ≤ r1 then
    gd_ (ib r1 8) <|
    some (fX10_coverOf (w.1 45 r1.toNatClampNeg))
  else
    some (0 : Int32) : Option Int32).bind fun (v4 : Int32) =>
  lt_ ((w.1 47 a2.toNatClampNeg) - v4) fun (v6 : Int32) =>
  if (0 : Int32) ≤ v6 then
    some v6
  else
    some (0 : Int32)
def fX10_holdsOf (a0 : Int32) (a1 : Int32) : Int32 :=
  lt_ (3 + (a1 / 3)) fun (v1 : Int32) =>
  if a0 = 1 then
    v1 + 2
  else if a0 = 2 then
    v1 + 1
  else if a0 = 3 then
    (99 : Int32)
  else if a0 = 4 then
    v1 - 1
  else if a0 = 5 then
    (v1 + 1) + (a1 / 2)
  else if a0 = 6 then
    v1 + 1
  else 
    v1
def fX10_holds (w : Wd) (a1 : Int32) : Option (Int32) :=
  (fX10_feltBy w a1 (w.1 42 8)).bind fun (r1 : Int32) =>
  gd_ (ib a1 8) <|
  if (fX10_holdsOf (w.1 45 a1.toNatClampNeg) (w.1 46 a1.toNatClampNeg)) < r1 then
    some (0 : Int32)
  else
    some (1 : Int32)
def fX10_holding_b4 (w : Wd) (l1 : Int32) (l2 : Int32) : Option ((Int32 × Int32) ⊕ (Int32)) :=
  if (w.1 42 6) ≤ l2 then
    some (.inr l1)
  else
    (if (fX10_has (w.1 42 7) l2) = 0 then
      some (0 : Int32)
    else
      (fX10_holds w l2).bind fun (r6 : Int32) =>
      if r6 = 0 then
        some (0 : Int32)
      else
        some ((1 : Int32) <<< (l2 &&& 31)) : Option Int32).bind fun (v5 : Int32) =>
    lt_ (l1 ||| v5) fun (v7 : Int32) =>
    lt_ (l2 + 1) fun (v8 : Int32) =>
    some (.inl (v7, v8))
def fX10_holding (w : Wd) : Option (Int32) :=
  (iter (fun s : Int32 × Int32 => fX10_holding_b4 w s.1 s.2) FU (0, 0)).bind fun (l10 : Int32) =>
  some l10
def fX10_bit (a0 : Int32) : Int32 :=
  if (0 : Int32) ≤ a0 then
    (1 : Int32) <<< (a0 &&& 31)
  else
    (0 : Int32)
def fX10_besideBits (w : Wd) (a1 : Int32) : Int32 :=
  if (w.1 44 0) = 2 then
    lt_ (if (fX10_isPerson w (a1 ^^^ 1)) = 0 then
      ((-9) : Int32)
    else
      a1 ^^^ 1 : Int32) fun (v1 : Int32) =>
    ((fX10_bit v1) ||| (fX10_bit (fX10_along w a1 (-2)))) ||| (fX10_bit (fX10_along w a1 2))
  else
    (fX10_bit (fX10_along w a1 (-1))) ||| (fX10_bit (fX10_along w a1 1))
def fX10_spread_b42 (v6 : Int32) (l2 : Int32) (l7 : Int32) (l8 : Int32) (l9 : Int32) (w10 : Wd) : Option ((Int32 × Int32 × Int32 × Wd) ⊕ (Int32 × Wd)) :=
  if (w10.1 42 6) ≤ l9 then
    some (.inr (l7, w10))
  else
    if l8 ≤ 0 then
      some (.inr (l7, w10))
    else
      if (fX10_has v6 l9) = 0 then
        lt_ (l9 + 1) fun (v13 : Int32) =>
        some (.inl (l7, l8, v13, w10))
      else
        if (fX10_has l7 l9) = 0 then
          gd_ (ib l9 8) <|
          if (w10.1 45 l9.toNatClampNeg) = 6 then
            lt_ (l9 + 1) fun (v15 : Int32) =>
            some (.inl (l7, l8, v15, w10))
          else
            lt_ (l7 ||| ((1 : Int32) <<< (l9 &&& 31))) fun (v16 : Int32) =>
            lt_ (upI w10 54 (l9.toNatClampNeg) l2) fun (w17 : Wd) =>
            gd_ (ib l2 8) <|
            lt_ (upI w17 55 (l9.toNatClampNeg) (w17.1 55 l2.toNatClampNeg)) fun (w19 : Wd) =>
            lt_ (upI w19 42 23 ((w19.1 42 23) + 1)) fun (w20 : Wd) =>
            lt_ (l8 + (-1)) fun (v21 : Int32) =>
            lt_ (l9 + 1) fun (v22 : Int32) =>
            some (.inl (v16, v21, v22, w20))
        else
          lt_ (l9 + 1) fun (v23 : Int32) =>
          some (.inl (l7, l8, v23, w10))
def fX10_spread_b4 (a1 : Int32) (l1 : Int32) (l2 : Int32) (w3 : Wd) : Option ((Int32 × Int32 × Wd) ⊕ (Int32 × Wd)) :=
  if (w3.1 42 6) ≤ l2 then
    some (.inr (l1, w3))
  else
    lt_ (if (fX10_has a1 l2) = 0 then
      (0 : Int32)
    else
      w3.1 44 1 : Int32) fun (v5 : Int32) =>
    lt_ (fX10_besideBits w3 l2) fun (v6 : Int32) =>
    (iter (fun s : Int32 × Int32 × Int32 × Wd => fX10_spread_b42 v6 l2 s.1 s.2.1 s.2.2.1 s.2.2.2) FU (l1, v5, 0, w3)).bind fun x24 => un2 x24 fun (l25 : Int32) (w26 : Wd) =>
    lt_ (l2 + 1) fun (v27 : Int32) =>
    some (.inl (l25, v27, w26))
def fX10_spread (w : Wd) (a1 : Int32) : Option (Int32 × Wd) :=
  (iter (fun s : Int32 × Int32 × Wd => fX10_spread_b4 a1 s.1 s.2.1 s.2.2) FU (a1, 0, w)).bind fun x28 => un2 x28 fun (l29 : Int32) (w30 : Wd) =>
  some (l29, w30)
def fX10_goes (w : Wd) (a1 : Int32) : Option (Wd) :=
  (fX10_holding w).bind fun (r1 : Int32) =>
  (fX10_spread w r1).bind fun q4 => un2 q4 fun (r3 : Int32) (w2 : Wd) =>
  lt_ (upI w2 42 7 r3) fun (w5 : Wd) =>
  lt_ (upI w5 42 9 ((w5.1 42 9) + 1)) fun (w6 : Wd) =>
  lt_ (if a1 = 0 then
    (1 : Int32)
  else
    (0 : Int32) : Int32) fun (v7 : Int32) =>
  lt_ (upI w6 42 8 ((w6.1 42 8) + v7)) fun (w8 : Wd) =>
  some w8
def fX10_comesMinute (w : Wd) (a1 : Int32) : Option (Int32 × Wd) :=
  if (1 : Int32) < a1 then
    some (0, w)
  else
    if (w.1 42 8) = (fX10_doorAt w) then
      some (0, w)
    else
      if (w.1 42 9) = 999 then
        some (0, w)
      else
        lt_ (if a1 = 1 then
          (1 : Int32)
        else
          (0 : Int32) : Int32) fun (v1 : Int32) =>
        (fX10_goes w v1).bind fun (w2 : Wd) =>
        some (1, w2)
def fX10_comes_j225 (w16 : Wd) (l15 : Int32) : Option (Int32 × Wd) :=
  lt_ (upI w16 42 7 ((w16.1 42 7) ^^^ ((1 : Int32) <<< (l15 &&& 31)))) fun (w17 : Wd) =>
  some (1, w17)
def fX10_comes (w : Wd) (a1 : Int32) : Option (Int32 × Wd) :=
  lt_ (3 * a1) fun (v1 : Int32) =>
  gd_ (ib v1 144) <|
  lt_ (w.1 52 v1.toNatClampNeg) fun (v3 : Int32) =>
  gd_ (ib (v1 + 1) 144) <|
  lt_ (w.1 52 (v1 + 1).toNatClampNeg) fun (v5 : Int32) =>
  gd_ (ib a1 48) <|
  lt_ (w.1 50 a1.toNatClampNeg) fun (v7 : Int32) =>
  if v7 = 100 then
    lt_ (upI w 44 2 v3) fun (w9 : Wd) =>
    if (fX10_isIn v3 1 24) = 0 then
      some (0, w9)
    else
      if v3 < (w9.1 42 8) then
        some (0, w9)
      else
        some (1, w9)
  else if v7 = 102 then
    lt_ (upI w 44 0 v3) fun (w11 : Wd) =>
    lt_ (upI w11 44 1 v5) fun (w12 : Wd) =>
    if (3 : Int32) ≤ v3 then
      some (0, w12)
    else
      if (fX10_isIn v5 1 2) = 0 then
        some (0, w12)
      else
        some (1, w12)
  else if v7 = 108 then
    if (fX10_isPerson w v3) = 0 then
      some (0, w)
    else
      gd_ (ib v3 8) <|
      if (w.1 45 v3.toNatClampNeg) = 6 then
        if (fX10_has (w.1 42 7) v3) = 0 then
          some (0, w)
        else
          fX10_comes_j225 w v3
      else
        fX10_comes_j225 w v3
  else if v7 = 112 then
    (fX10_comesOne w v1).bind fun q21 => un2 q21 fun (r20 : Int32) (w19 : Wd) =>
    gd_ (bz r20) <|
    some (r20, w19)
  else if v7 = 119 then
    if (24 : Int32) < v3 then
      some (0, w)
    else
      gd_ (ib (v1 + 2) 144) <|
      if (w.1 52 (v1 + 2).toNatClampNeg) ≤ 2 then
        gd_ (ib v3 25) <|
        lt_ (upI w 47 (v3.toNatClampNeg) v5) fun (w25 : Wd) =>
        lt_ (upI w25 48 (v3.toNatClampNeg) (w25.1 52 (v1 + 2).toNatClampNeg)) fun (w27 : Wd) =>
        some (1, w27)
      else
        some (0, w)
  else 
    (fX10_comesMinute w v3).bind fun q30 => un2 q30 fun (r29 : Int32) (w28 : Wd) =>
    gd_ (bz r29) <|
    some (r29, w28)
def fX10_road_j34 (w6 : Wd) : Option ((Int32 × Wd) ⊕ (Int32 × Wd)) :=
  (fX10_statement w6).bind fun q9 => un2 q9 fun (r8 : Int32) (w7 : Wd) =>
  lt_ (if r8 = 0 then
    (0 : Int32)
  else
    (1 : Int32) : Int32) fun (v10 : Int32) =>
  lt_ (upI w7 42 16 ((w7.1 42 16) + v10)) fun (w11 : Wd) =>
  some (.inl (r8, w11))
def fX10_road_b12 (l3 : Int32) (w4 : Wd) : Option ((Int32 × Wd) ⊕ (Int32 × Wd)) :=
  if l3 = 0 then
    some (.inr (l3, w4))
  else
    if (w4.1 42 15) < (w4.1 42 14) then
      fX10_road_j34 w4
    else
      if (w4.1 42 16) = 0 then
        fX10_road_j34 w4
      else
        some (.inr (l3, w4))
def fX10_road_b86 (l20 : Int32) (w21 : Wd) : Option ((Int32 × Wd) ⊕ (Int32 × Wd)) :=
  if (w21.1 42 16) ≤ l20 then
    lt_ (upI w21 42 27 0) fun (w22 : Wd) =>
    some (.inr (w22.1 42 16, w22))
  else
    (fX10_comes w21 l20).bind fun q25 => un2 q25 fun (r24 : Int32) (w23 : Wd) =>
    if r24 = 0 then
      (fX10_passesAll w23 1 0).bind fun (w26 : Wd) =>
      gd_ (ib l20 48) <|
      some (.inr ((-2000) - (w26.1 51 l20.toNatClampNeg), w26))
    else
      lt_ (l20 + 1) fun (v28 : Int32) =>
      some (.inl (v28, w23))
def fX10_road_j60 (w17 : Wd) (l16 : Int32) : Option (Int32 × Wd) :=
  lt_ (upI w17 42 14 0) fun (w18 : Wd) =>
  if l16 = 0 then
    some ((-1000) - (w18.1 42 15), w18)
  else
    (fX10_passesAll w18 1 1).bind fun (w19 : Wd) =>
    iter (fun s : Int32 × Wd => fX10_road_b86 s.1 s.2) FU (0, w19)
def fX10_road (w : Wd) : Option (Int32 × Wd) :=
  lt_ (upI w 42 15 0) fun (w1 : Wd) =>
  lt_ (upI w1 42 16 0) fun (w2 : Wd) =>
  (iter (fun s : Int32 × Wd => fX10_road_b12 s.1 s.2) FU (1, w2)).bind fun x13 => un2 x13 fun (l14 : Int32) (w15 : Wd) =>
  fX10_road_j60 w15 l14
def fX10_image (w : Wd) : Option (Int32 × Wd) :=
  lt_ (upI w 42 18 1) fun (w1 : Wd) =>
  (fX10_passesAll w1 0 1).bind fun (w2 : Wd) =>
  some (w2.1 42 8, w2)
def fX10_restore (w : Wd) : Option (Int32 × Wd) :=
  if (w.1 42 18) = 0 then
    (fX10_no w (-3)).bind fun q3 => un2 q3 fun (r2 : Int32) (w1 : Wd) =>
    some (r2, w1)
  else
    (fX10_passesAll w 0 0).bind fun (w4 : Wd) =>
    lt_ (upI w4 42 27 0) fun (w5 : Wd) =>
    some (w5.1 42 8, w5)
def fX10_givesOf (a0 : Int32) : Int32 :=
  if a0 = 0 then
    (2 : Int32)
  else if a0 = 3 then
    (3 : Int32)
  else if a0 = 4 then
    (3 : Int32)
  else 
    (1 : Int32)
def fX10_person (w : Wd) (a1 : Int32) (a2 : Int32) : Option (Int32 × Wd) :=
  if (fX10_isPerson w a1) = 0 then
    (fX10_no w (-1)).bind fun q3 => un2 q3 fun (r2 : Int32) (w1 : Wd) =>
    some (r2, w1)
  else
    if a2 = 0 then
      gd_ (ib a1 8) <|
      some (w.1 45 a1.toNatClampNeg, w)
    else if a2 = 1 then
      gd_ (ib a1 8) <|
      some (w.1 46 a1.toNatClampNeg, w)
    else if a2 = 2 then
      some (((w.1 42 7) >>> (a1 &&& 31)) &&& 1, w)
    else if a2 = 3 then
      gd_ (ib a1 8) <|
      some (fX10_coverOf (w.1 45 a1.toNatClampNeg), w)
    else if a2 = 4 then
      gd_ (ib a1 8) <|
      some (fX10_holdsOf (w.1 45 a1.toNatClampNeg) (w.1 46 a1.toNatClampNeg), w)
    else if a2 = 5 then
      gd_ (ib a1 8) <|
      some (fX10_givesOf (w.1 45 a1.toNatClampNeg), w)
    else if a2 = 6 then
      (fX10_feltBy w a1 (w.1 42 8)).bind fun (r16 : Int32) =>
      some (r16, w)
    else 
      (fX10_no w (-2)).bind fun q19 => un2 q19 fun (r18 : Int32) (w17 : Wd) =>
      some (r18, w17)
def fX10_light (w : Wd) (a1 : Int32) (a2 : Int32) : Option (Int32 × Wd) :=
  (if (fX10_isPerson w a1) = 0 then
    some ((-1) : Int32)
  else
    if (fX10_isIn a2 0 1) = 0 then
      some ((-2) : Int32)
    else
      gd_ (ib a1 8) <|
      if (w.1 45 a1.toNatClampNeg) = 6 then
        if a2 = 1 then
          some ((-3) : Int32)
        else
          some (0 : Int32)
      else
        some (0 : Int32) : Option Int32).bind fun (v2 : Int32) =>
  if v2 = 0 then
    lt_ (((w.1 42 7) >>> (a1 &&& 31)) &&& 1) fun (v4 : Int32) =>
    lt_ (upI w 42 7 (((w.1 42 7) &&& (((1 : Int32) <<< (a1 &&& 31)) ^^^ (-1))) ||| (a2 <<< (a1 &&& 31)))) fun (w5 : Wd) =>
    lt_ (upI w5 42 27 0) fun (w6 : Wd) =>
    some (v4, w6)
  else
    (fX10_no w v2).bind fun q9 => un2 q9 fun (r8 : Int32) (w7 : Wd) =>
    some (r8, w7)
def fX10_becomes (w : Wd) (a1 : Int32) (a2 : Int32) : Option (Wd) :=
  gd_ (ib a1 8) <|
  lt_ (upI w 45 (a1.toNatClampNeg) a2) fun (w1 : Wd) =>
  if a2 = 6 then
    lt_ (upI w1 42 7 ((w1.1 42 7) &&& (((1 : Int32) <<< (a1 &&& 31)) ^^^ (-1)))) fun (w3 : Wd) =>
    some w3
  else
    some w1
def fX10_kind (w : Wd) (a1 : Int32) (a2 : Int32) (a3 : Int32) : Option (Int32 × Wd) :=
  lt_ (if (fX10_isPerson w a1) = 0 then
    ((-1) : Int32)
  else
    if (fX10_isIn a2 0 6) = 0 then
      ((-2) : Int32)
    else
      fX10_bound a3 0 9 : Int32) fun (v1 : Int32) =>
  if v1 = 0 then
    gd_ (ib a1 8) <|
    lt_ ((10 * (w.1 45 a1.toNatClampNeg)) + (w.1 46 a1.toNatClampNeg)) fun (v3 : Int32) =>
    (fX10_becomes w a1 a2).bind fun (w4 : Wd) =>
    lt_ (upI w4 46 (a1.toNatClampNeg) a3) fun (w5 : Wd) =>
    lt_ (upI w5 42 27 0) fun (w6 : Wd) =>
    some (v3, w6)
  else
    (fX10_no w v1).bind fun q9 => un2 q9 fun (r8 : Int32) (w7 : Wd) =>
    some (r8, w7)
def fX10_isPlace (a0 : Int32) : Int32 :=
  if a0 < 0 then
    (0 : Int32)
  else
    if (24 : Int32) < a0 then
      (0 : Int32)
    else
      (1 : Int32)
def fX10_wind (w : Wd) (a1 : Int32) (a2 : Int32) : Option (Int32 × Wd) :=
  if (fX10_isPlace a1) = 0 then
    (fX10_no w (-1)).bind fun q3 => un2 q3 fun (r2 : Int32) (w1 : Wd) =>
    some (r2, w1)
  else
    if (fX10_isIn a2 0 1) = 0 then
      (fX10_no w (-2)).bind fun q6 => un2 q6 fun (r5 : Int32) (w4 : Wd) =>
      some (r5, w4)
    else
      if a2 = 0 then
        gd_ (ib a1 25) <|
        some (w.1 47 a1.toNatClampNeg, w)
      else
        gd_ (ib a1 25) <|
        some (w.1 48 a1.toNatClampNeg, w)
def fX10_blows (w : Wd) (a1 : Int32) (a2 : Int32) (a3 : Int32) : Option (Int32 × Wd) :=
  lt_ (if (fX10_isPlace a1) = 0 then
    ((-1) : Int32)
  else
    if a2 < 0 then
      ((-4) : Int32)
    else
      if (0 : Int32) ≤ a3 then
        if (9 : Int32) < a2 then
          ((-6) : Int32)
        else
          if a3 ≤ 2 then
            (0 : Int32)
          else
            ((-6) : Int32)
      else
        ((-4) : Int32) : Int32) fun (v1 : Int32) =>
  if v1 = 0 then
    gd_ (ib a1 25) <|
    lt_ ((10 * (w.1 47 a1.toNatClampNeg)) + (w.1 48 a1.toNatClampNeg)) fun (v3 : Int32) =>
    lt_ (upI w 47 (a1.toNatClampNeg) a2) fun (w4 : Wd) =>
    lt_ (upI w4 48 (a1.toNatClampNeg) a3) fun (w5 : Wd) =>
    lt_ (upI w5 42 27 0) fun (w6 : Wd) =>
    some (v3, w6)
  else
    (fX10_no w v1).bind fun q9 => un2 q9 fun (r8 : Int32) (w7 : Wd) =>
    some (r8, w7)
def fX10_set_j59 (a1 : Int32) (a2 : Int32) (w3 : Wd) (l2 : Int32) : Option (Int32 × Wd) :=
  if l2 = 0 then
    gd_ (ib a1 3) <|
    lt_ (w3.1 44 a1.toNatClampNeg) fun (v5 : Int32) =>
    lt_ (upI w3 44 (a1.toNatClampNeg) a2) fun (w6 : Wd) =>
    lt_ (upI w6 42 27 0) fun (w7 : Wd) =>
    some (v5, w7)
  else
    (fX10_no w3 l2).bind fun q10 => un2 q10 fun (r9 : Int32) (w8 : Wd) =>
    some (r9, w8)
def fX10_set (w : Wd) (a1 : Int32) (a2 : Int32) : Option (Int32 × Wd) :=
  lt_ (if (fX10_isIn a1 0 2) = 0 then
    ((-2) : Int32)
  else
    if a1 = 0 then
      if a1 = 2 then
        fX10_bound a2 0 24
      else
        fX10_bound a2 0 2
    else
      if a1 = 2 then
        fX10_bound a2 1 24
      else
        fX10_bound a2 1 2 : Int32) fun (v1 : Int32) =>
  if v1 = 0 then
    if a1 = 2 then
      if (w.1 42 8) ≤ a2 then
        fX10_set_j59 a1 a2 w v1
      else
        fX10_set_j59 a1 a2 w (-3)
    else
      fX10_set_j59 a1 a2 w v1
  else
    fX10_set_j59 a1 a2 w v1
def fX10_beside (w : Wd) (a1 : Int32) : Option (Int32 × Wd) :=
  if (fX10_isPerson w a1) = 0 then
    (fX10_no w (-1)).bind fun q3 => un2 q3 fun (r2 : Int32) (w1 : Wd) =>
    some (r2, w1)
  else
    some (fX10_besideBits w a1, w)
def fX10_covers_j24 (w1 : Wd) : Option (Int32 × Wd) :=
  (fX10_no w1 (-1)).bind fun q4 => un2 q4 fun (r3 : Int32) (w2 : Wd) =>
  some (r3, w2)
def fX10_covers (w : Wd) (a1 : Int32) (a2 : Int32) : Option (Int32 × Wd) :=
  if (fX10_isPerson w a1) = 0 then
    fX10_covers_j24 w
  else
    if (fX10_isPlace a2) = 0 then
      fX10_covers_j24 w
    else
      (fX10_coverer w a1 a2).bind fun (r5 : Int32) =>
      some (r5, w)
def fX10_back_b46 (l7 : Int32) (w8 : Wd) : Option ((Int32 × Wd) ⊕ (Wd)) :=
  if (7 : Int32) ≤ l7 then
    some (.inr w8)
  else
    gd_ (ib (l7 + 1) 8) <|
    gd_ (ib l7 8) <|
    lt_ (upI w8 56 (l7.toNatClampNeg) (w8.1 56 (l7 + 1).toNatClampNeg)) fun (w11 : Wd) =>
    lt_ (upI w11 57 (l7.toNatClampNeg) (w11.1 57 (l7 + 1).toNatClampNeg)) fun (w13 : Wd) =>
    lt_ (upI w13 58 (l7.toNatClampNeg) (w13.1 58 (l7 + 1).toNatClampNeg)) fun (w14 : Wd) =>
    lt_ (l7 + 1) fun (v15 : Int32) =>
    some (.inl (v15, w14))
def fX10_back (w : Wd) : Option (Int32 × Wd) :=
  if (w.1 42 27) = 0 then
    (fX10_no w (-3)).bind fun q3 => un2 q3 fun (r2 : Int32) (w1 : Wd) =>
    some (r2, w1)
  else
    lt_ (upI w 42 7 (w.1 56 0)) fun (w4 : Wd) =>
    lt_ (upI w4 42 8 (w4.1 57 0)) fun (w5 : Wd) =>
    lt_ (upI w5 42 9 (w5.1 58 0)) fun (w6 : Wd) =>
    (iter (fun s : Int32 × Wd => fX10_back_b46 s.1 s.2) FU (0, w6)).bind fun (w17 : Wd) =>
    lt_ (upI w17 42 27 ((w17.1 42 27) - 1)) fun (w18 : Wd) =>
    some (w18.1 42 8, w18)
def fX10_keepsMinute_b3 (l1 : Int32) (w2 : Wd) : Option ((Int32 × Wd) ⊕ (Wd)) :=
  if l1 ≤ 0 then
    some (.inr w2)
  else
    gd_ (ib (l1 - 1) 8) <|
    gd_ (ib l1 8) <|
    lt_ (upI w2 56 (l1.toNatClampNeg) (w2.1 56 (l1 - 1).toNatClampNeg)) fun (w5 : Wd) =>
    lt_ (upI w5 57 (l1.toNatClampNeg) (w5.1 57 (l1 - 1).toNatClampNeg)) fun (w7 : Wd) =>
    lt_ (upI w7 58 (l1.toNatClampNeg) (w7.1 58 (l1 - 1).toNatClampNeg)) fun (w8 : Wd) =>
    lt_ (l1 + (-1)) fun (v9 : Int32) =>
    some (.inl (v9, w8))
def fX10_keepsMinute_j106 (w16 : Wd) (l15 : Int32) : Option (Wd) :=
  lt_ (upI w16 42 27 l15) fun (w17 : Wd) =>
  some w17
def fX10_keepsMinute (w : Wd) : Option (Wd) :=
  (iter (fun s : Int32 × Wd => fX10_keepsMinute_b3 s.1 s.2) FU (7, w)).bind fun (w11 : Wd) =>
  lt_ (upI w11 56 0 (w11.1 42 7)) fun (w12 : Wd) =>
  lt_ (upI w12 57 0 (w12.1 42 8)) fun (w13 : Wd) =>
  lt_ (upI w13 58 0 (w13.1 42 9)) fun (w14 : Wd) =>
  if (8 : Int32) ≤ (w14.1 42 27) then
    fX10_keepsMinute_j106 w14 8
  else
    fX10_keepsMinute_j106 w14 ((w14.1 42 27) + 1)
def fX10_bits_b4 (a0 : Int32) (l1 : Int32) (l2 : Int32) : Option ((Int32 × Int32) ⊕ (Int32)) :=
  if (31 : Int32) ≤ l2 then
    some (.inr l1)
  else
    lt_ (l1 + ((a0 >>> (l2 &&& 31)) &&& 1)) fun (v4 : Int32) =>
    lt_ (l2 + 1) fun (v5 : Int32) =>
    some (.inl (v4, v5))
def fX10_bits (a0 : Int32) : Option (Int32) :=
  (iter (fun s : Int32 × Int32 => fX10_bits_b4 a0 s.1 s.2) FU (0, 0)).bind fun (l7 : Int32) =>
  some l7
def fX10_go (w : Wd) (a1 : Int32) : Option (Int32 × Wd) :=
  lt_ (if (fX10_isIn a1 0 1) = 0 then
    ((-2) : Int32)
  else
    if (w.1 42 8) = (fX10_doorAt w) then
      ((-3) : Int32)
    else
      if (w.1 42 9) = 999 then
        ((-6) : Int32)
      else
        (0 : Int32) : Int32) fun (v1 : Int32) =>
  if v1 = 0 then
    (fX10_keepsMinute w).bind fun (w2 : Wd) =>
    lt_ (if a1 = 1 then
      (1 : Int32)
    else
      (0 : Int32) : Int32) fun (v3 : Int32) =>
    (fX10_goes w2 v3).bind fun (w4 : Wd) =>
    (fX10_bits (w4.1 42 7)).bind fun (r5 : Int32) =>
    some (r5, w4)
  else
    (fX10_no w v1).bind fun q8 => un2 q8 fun (r7 : Int32) (w6 : Wd) =>
    some (r7, w6)
def fX10_lit (w : Wd) : Int32 :=
  w.1 42 7
def fX10_goesAhead_b2 (a1 : Int32) (l1 : Int32) (w2 : Wd) : Option ((Int32 × Wd) ⊕ (Wd)) :=
  if a1 ≤ l1 then
    some (.inr w2)
  else
    if (fX10_doorAt w2) ≤ (w2.1 42 8) then
      some (.inr w2)
    else
      (fX10_goes w2 0).bind fun (w5 : Wd) =>
      lt_ (l1 + 1) fun (v6 : Int32) =>
      some (.inl (v6, w5))
def fX10_goesAhead (w : Wd) (a1 : Int32) : Option (Wd) :=
  (iter (fun s : Int32 × Wd => fX10_goesAhead_b2 a1 s.1 s.2) FU (0, w)).bind fun (w8 : Wd) =>
  some w8
def fX10_then (w : Wd) (a1 : Int32) : Option (Int32 × Wd) :=
  lt_ (fX10_bound a1 0 24) fun (v1 : Int32) =>
  if v1 = 0 then
    (fX10_passesAll w 1 1).bind fun (w2 : Wd) =>
    (fX10_goesAhead w2 a1).bind fun (w3 : Wd) =>
    lt_ (w3.1 42 7) fun (v4 : Int32) =>
    (fX10_passesAll w3 1 0).bind fun (w5 : Wd) =>
    some (v4, w5)
  else
    (fX10_no w v1).bind fun q8 => un2 q8 fun (r7 : Int32) (w6 : Wd) =>
    some (r7, w6)
def fX10_goesToDoor_b0 (w1 : Wd) : Option ((Wd) ⊕ (Wd)) :=
  if (fX10_doorAt w1) ≤ (w1.1 42 8) then
    some (.inr w1)
  else
    (fX10_goes w1 0).bind fun (w3 : Wd) =>
    some (.inl w3)
def fX10_goesToDoor (w : Wd) : Option (Wd) :=
  (iter (fun s : Wd => fX10_goesToDoor_b0 s) FU w).bind fun (w5 : Wd) =>
  some w5
def fX10_atDoor (w : Wd) : Option (Int32 × Wd) :=
  (fX10_passesAll w 2 1).bind fun (w1 : Wd) =>
  (fX10_goesToDoor w1).bind fun (w2 : Wd) =>
  lt_ (w2.1 42 7) fun (v3 : Int32) =>
  (fX10_passesAll w2 2 0).bind fun (w4 : Wd) =>
  some (v3, w4)
def fX10_lightOf_b4 (w : Wd) (a1 : Int32) (l1 : Int32) (l2 : Int32) : Option ((Int32 × Int32) ⊕ (Int32)) :=
  if (w.1 42 6) ≤ l2 then
    some (.inr l1)
  else
    (if (fX10_has a1 l2) = 0 then
      some (0 : Int32)
    else
      gd_ (ib l2 8) <|
      some (fX10_givesOf (w.1 45 l2.toNatClampNeg)) : Option Int32).bind fun (v5 : Int32) =>
    lt_ (l1 + v5) fun (v7 : Int32) =>
    lt_ (l2 + 1) fun (v8 : Int32) =>
    some (.inl (v7, v8))
def fX10_lightOf (w : Wd) (a1 : Int32) : Option (Int32) :=
  (iter (fun s : Int32 × Int32 => fX10_lightOf_b4 w a1 s.1 s.2) FU (0, 0)).bind fun (l10 : Int32) =>
  some l10
def fX10_door (w : Wd) (a1 : Int32) : Option (Int32 × Wd) :=
  if (fX10_isIn a1 0 2) = 0 then
    (fX10_no w (-2)).bind fun q3 => un2 q3 fun (r2 : Int32) (w1 : Wd) =>
    some (r2, w1)
  else
    (fX10_atDoor w).bind fun q6 => un2 q6 fun (r5 : Int32) (w4 : Wd) =>
    if a1 = 0 then
      some (r5, w4)
    else
      if a1 = 1 then
        (fX10_bits r5).bind fun (r7 : Int32) =>
        some (r7, w4)
      else
        (fX10_lightOf w4 r5).bind fun (r8 : Int32) =>
        some (r8, w4)
def fX10_dark_b44 (l6 : Int32) (l7 : Int32) (l8 : Int32) (l9 : Int32) (w10 : Wd) : Option ((Int32 × Int32 × Int32 × Int32 × Wd) ⊕ (Int32 × Int32 × Wd)) :=
  if (fX10_doorAt w10) ≤ (w10.1 42 8) then
    some (.inr (l6, l8, w10))
  else
    (fX10_goes w10 0).bind fun (w12 : Wd) =>
    lt_ (if (w12.1 42 7) = 0 then
      l7 + 1
    else
      (0 : Int32) : Int32) fun (v13 : Int32) =>
    lt_ (if v13 ≤ l8 then
      l8
    else
      v13 : Int32) fun (v14 : Int32) =>
    lt_ (if (w12.1 42 7) = 0 then
      if (0 : Int32) ≤ l6 then
        l6
      else
        l9
    else
      l6 : Int32) fun (v15 : Int32) =>
    lt_ (l9 + 1) fun (v16 : Int32) =>
    some (.inl (v15, v13, v14, v16, w12))
def fX10_dark (w : Wd) (a1 : Int32) : Option (Int32 × Wd) :=
  if (fX10_isIn a1 0 1) = 0 then
    (fX10_no w (-2)).bind fun q3 => un2 q3 fun (r2 : Int32) (w1 : Wd) =>
    some (r2, w1)
  else
    (fX10_passesAll w 1 1).bind fun (w4 : Wd) =>
    lt_ (if (w4.1 42 7) = 0 then
      (0 : Int32)
    else
      ((-9) : Int32) : Int32) fun (v5 : Int32) =>
    (iter (fun s : Int32 × Int32 × Int32 × Int32 × Wd => fX10_dark_b44 s.1 s.2.1 s.2.2.1 s.2.2.2.1 s.2.2.2.2) FU (v5, 0, 0, 1, w4)).bind fun x17 => un3 x17 fun (l18 : Int32) (l19 : Int32) (w20 : Wd) =>
    (fX10_passesAll w20 1 0).bind fun (w21 : Wd) =>
    if a1 = 0 then
      some (l18, w21)
    else
      some (l19, w21)
def fX10_darkEnds_b8 (a1 : Int32) (l2 : Int32) (w3 : Wd) : Option ((Int32 × Wd) ⊕ (Int32 × Wd)) :=
  if (fX10_doorAt w3) ≤ (w3.1 42 8) then
    some (.inr (l2, w3))
  else
    (fX10_goes w3 0).bind fun (w5 : Wd) =>
    lt_ (if (fX10_has (w5.1 42 7) a1) = 0 then
      (1 : Int32)
    else
      (0 : Int32) : Int32) fun (v6 : Int32) =>
    lt_ (l2 + v6) fun (v7 : Int32) =>
    some (.inl (v7, w5))
def fX10_darkEnds (w : Wd) (a1 : Int32) : Option (Int32 × Wd) :=
  (fX10_passesAll w 2 1).bind fun (w1 : Wd) =>
  (iter (fun s : Int32 × Wd => fX10_darkEnds_b8 a1 s.1 s.2) FU (0, w1)).bind fun x8 => un2 x8 fun (l9 : Int32) (w10 : Wd) =>
  (fX10_passesAll w10 2 0).bind fun (w11 : Wd) =>
  some (l9, w11)
def fX10_darkFor (w : Wd) (a1 : Int32) : Option (Int32 × Wd) :=
  if (fX10_isPerson w a1) = 0 then
    (fX10_no w (-1)).bind fun q3 => un2 q3 fun (r2 : Int32) (w1 : Wd) =>
    some (r2, w1)
  else
    (fX10_darkEnds w a1).bind fun q6 => un2 q6 fun (r5 : Int32) (w4 : Wd) =>
    some (r5, w4)
def fX10_litBy_b39 (l3 : Int32) (w4 : Wd) : Option ((Int32 × Wd) ⊕ (Wd)) :=
  if (8 : Int32) ≤ l3 then
    some (.inr w4)
  else
    gd_ (ib l3 8) <|
    lt_ (upI w4 54 (l3.toNatClampNeg) (-9)) fun (w6 : Wd) =>
    lt_ (l3 + 1) fun (v8 : Int32) =>
    some (.inl (v8, w6))
def fX10_litBy (w : Wd) (a1 : Int32) (a2 : Int32) : Option (Int32 × Wd) :=
  lt_ (if (fX10_isPerson w a1) = 0 then
    ((-1) : Int32)
  else
    fX10_bound a2 0 24 : Int32) fun (v1 : Int32) =>
  if v1 = 0 then
    (fX10_passesAll w 1 1).bind fun (w2 : Wd) =>
    (iter (fun s : Int32 × Wd => fX10_litBy_b39 s.1 s.2) FU (0, w2)).bind fun (w10 : Wd) =>
    (fX10_goesAhead w10 a2).bind fun (w11 : Wd) =>
    (fX10_passesAll w11 1 0).bind fun (w12 : Wd) =>
    gd_ (ib a1 8) <|
    some (w12.1 54 a1.toNatClampNeg, w12)
  else
    (fX10_no w v1).bind fun q16 => un2 q16 fun (r15 : Int32) (w14 : Wd) =>
    some (r15, w14)
def fX10_stopBy_b19 (a2 : Int32) (a1 : Int32) (l4 : Int32) (w5 : Wd) : Option ((Int32 × Wd) ⊕ (Wd)) :=
  if a2 ≤ l4 then
    some (.inr w5)
  else
    if (w5.1 42 8) = a1 then
      (fX10_goes w5 1).bind fun (w7 : Wd) =>
      lt_ (l4 + 1) fun (v8 : Int32) =>
      some (.inl (v8, w7))
    else
      some (.inr w5)
def fX10_stopBy_j43 (w12 : Wd) : Option ((Wd) ⊕ (Wd)) :=
  (fX10_goes w12 0).bind fun (w13 : Wd) =>
  some (.inl w13)
def fX10_stopBy_b6 (a2 : Int32) (a1 : Int32) (w2 : Wd) : Option ((Wd) ⊕ (Wd)) :=
  if (fX10_doorAt w2) ≤ (w2.1 42 8) then
    some (.inr w2)
  else
    (iter (fun s : Int32 × Wd => fX10_stopBy_b19 a2 a1 s.1 s.2) FU (0, w2)).bind fun (w11 : Wd) =>
    fX10_stopBy_j43 w11
def fX10_stopBy (w : Wd) (a1 : Int32) (a2 : Int32) : Option (Int32 × Wd) :=
  (fX10_passesAll w 2 1).bind fun (w1 : Wd) =>
  (iter (fun s : Wd => fX10_stopBy_b6 a2 a1 s) FU w1).bind fun (w15 : Wd) =>
  (fX10_bits (w15.1 42 7)).bind fun (r16 : Int32) =>
  (fX10_passesAll w15 2 0).bind fun (w17 : Wd) =>
  some (r16, w17)
def fX10_stop_b25 (l7 : Int32) (l11 : Int32) (l12 : Int32) (l13 : Int32) (w14 : Wd) : Option ((Int32 × Int32 × Int32 × Wd) ⊕ (Int32 × Int32 × Wd)) :=
  if (fX10_doorAt w14) ≤ l13 then
    some (.inr (l11, l12, w14))
  else
    (fX10_stopBy w14 l13 l7).bind fun q18 => un2 q18 fun (r17 : Int32) (w16 : Wd) =>
    if l11 < r17 then
      lt_ ((10 * l13) + l7) fun (v19 : Int32) =>
      lt_ (l13 + 1) fun (v20 : Int32) =>
      some (.inl (r17, v19, v20, w16))
    else
      lt_ (l13 + 1) fun (v21 : Int32) =>
      some (.inl (l11, l12, v21, w16))
def fX10_stop_b13 (l5 : Int32) (l6 : Int32) (l7 : Int32) (w8 : Wd) : Option ((Int32 × Int32 × Int32 × Wd) ⊕ (Int32 × Wd)) :=
  if (6 : Int32) ≤ l7 then
    some (.inr (l6, w8))
  else
    lt_ (w8.1 42 8) fun (v10 : Int32) =>
    (iter (fun s : Int32 × Int32 × Int32 × Wd => fX10_stop_b25 l7 s.1 s.2.1 s.2.2.1 s.2.2.2) FU (l5, l6, v10, w8)).bind fun x22 => un3 x22 fun (l23 : Int32) (l24 : Int32) (w25 : Wd) =>
    lt_ (l7 + 1) fun (v26 : Int32) =>
    some (.inl (l23, l24, v26, w25))
def fX10_stop (w : Wd) : Option (Int32 × Wd) :=
  (fX10_atDoor w).bind fun q3 => un2 q3 fun (r2 : Int32) (w1 : Wd) =>
  (fX10_bits r2).bind fun (r4 : Int32) =>
  (iter (fun s : Int32 × Int32 × Int32 × Wd => fX10_stop_b13 s.1 s.2.1 s.2.2.1 s.2.2.2) FU (r4, (-9), 1, w1)).bind fun x27 => un2 x27 fun (l28 : Int32) (w29 : Wd) =>
  some (l28, w29)
def fX10_lower_b14 (l5 : Int32) (l6 : Int32) (l7 : Int32) (w8 : Wd) : Option ((Int32 × Int32 × Int32 × Wd) ⊕ (Int32 × Wd)) :=
  if (w8.1 42 6) ≤ l7 then
    some (.inr (l6, w8))
  else
    (fX10_passesAll w8 1 1).bind fun (w10 : Wd) =>
    gd_ (ib l7 8) <|
    lt_ (upI w10 45 (l7.toNatClampNeg) 2) fun (w11 : Wd) =>
    (fX10_atDoor w11).bind fun q15 => un2 q15 fun (r14 : Int32) (w13 : Wd) =>
    (fX10_lightOf w13 r14).bind fun (r16 : Int32) =>
    (fX10_passesAll w13 1 0).bind fun (w17 : Wd) =>
    if l5 < r16 then
      lt_ (l7 + 1) fun (v18 : Int32) =>
      some (.inl (r16, l7, v18, w17))
    else
      lt_ (l7 + 1) fun (v19 : Int32) =>
      some (.inl (l5, l6, v19, w17))
def fX10_lower (w : Wd) : Option (Int32 × Wd) :=
  (fX10_atDoor w).bind fun q3 => un2 q3 fun (r2 : Int32) (w1 : Wd) =>
  (fX10_lightOf w1 r2).bind fun (r4 : Int32) =>
  (iter (fun s : Int32 × Int32 × Int32 × Wd => fX10_lower_b14 s.1 s.2.1 s.2.2.1 s.2.2.2) FU (r4, (-9), 0, w1)).bind fun x20 => un2 x20 fun (l21 : Int32) (w22 : Wd) =>
  some (l21, w22)
def fX10_exchanges (w : Wd) (a1 : Int32) (a2 : Int32) : Option (Wd) :=
  gd_ (ib a1 8) <|
  lt_ (w.1 45 a1.toNatClampNeg) fun (v2 : Int32) =>
  lt_ (w.1 46 a1.toNatClampNeg) fun (v3 : Int32) =>
  lt_ ((((w.1 42 7) >>> (a1 &&& 31)) ^^^ ((w.1 42 7) >>> (a2 &&& 31))) &&& 1) fun (v4 : Int32) =>
  gd_ (ib a2 8) <|
  lt_ (upI w 45 (a1.toNatClampNeg) (w.1 45 a2.toNatClampNeg)) fun (w6 : Wd) =>
  lt_ (upI w6 46 (a1.toNatClampNeg) (w6.1 46 a2.toNatClampNeg)) fun (w7 : Wd) =>
  lt_ (upI w7 45 (a2.toNatClampNeg) v2) fun (w8 : Wd) =>
  lt_ (upI w8 46 (a2.toNatClampNeg) v3) fun (w9 : Wd) =>
  lt_ (upI w9 42 7 ((w9.1 42 7) ^^^ ((v4 <<< (a1 &&& 31)) ||| (v4 <<< (a2 &&& 31))))) fun (w10 : Wd) =>
  some w10
def fX10_changed_b26 (l7 : Int32) (l11 : Int32) (l12 : Int32) (l13 : Int32) (w14 : Wd) : Option ((Int32 × Int32 × Int32 × Wd) ⊕ (Int32 × Int32 × Wd)) :=
  if (w14.1 42 6) ≤ l13 then
    some (.inr (l11, l12, w14))
  else
    (fX10_passesAll w14 1 1).bind fun (w16 : Wd) =>
    (fX10_exchanges w16 l7 l13).bind fun (w17 : Wd) =>
    (fX10_atDoor w17).bind fun q20 => un2 q20 fun (r19 : Int32) (w18 : Wd) =>
    (fX10_bits r19).bind fun (r21 : Int32) =>
    (fX10_passesAll w18 1 0).bind fun (w22 : Wd) =>
    if l11 < r21 then
      lt_ ((10 * l7) + l13) fun (v23 : Int32) =>
      lt_ (l13 + 1) fun (v24 : Int32) =>
      some (.inl (r21, v23, v24, w22))
    else
      lt_ (l13 + 1) fun (v25 : Int32) =>
      some (.inl (l11, l12, v25, w22))
def fX10_changed_b13 (l5 : Int32) (l6 : Int32) (l7 : Int32) (w8 : Wd) : Option ((Int32 × Int32 × Int32 × Wd) ⊕ (Int32 × Wd)) :=
  if (w8.1 42 6) ≤ l7 then
    some (.inr (l6, w8))
  else
    lt_ (l7 + 1) fun (v10 : Int32) =>
    (iter (fun s : Int32 × Int32 × Int32 × Wd => fX10_changed_b26 l7 s.1 s.2.1 s.2.2.1 s.2.2.2) FU (l5, l6, v10, w8)).bind fun x26 => un3 x26 fun (l27 : Int32) (l28 : Int32) (w29 : Wd) =>
    lt_ (l7 + 1) fun (v30 : Int32) =>
    some (.inl (l27, l28, v30, w29))
def fX10_changed (w : Wd) : Option (Int32 × Wd) :=
  (fX10_atDoor w).bind fun q3 => un2 q3 fun (r2 : Int32) (w1 : Wd) =>
  (fX10_bits r2).bind fun (r4 : Int32) =>
  (iter (fun s : Int32 × Int32 × Int32 × Wd => fX10_changed_b13 s.1 s.2.1 s.2.2.1 s.2.2.2) FU (r4, (-9), 0, w1)).bind fun x31 => un2 x31 fun (l32 : Int32) (w33 : Wd) =>
  some (l32, w33)
def fX10_tellsOrder_b12 (l2 : Int32) (l3 : Int32) (l4 : Int32) (w5 : Wd) : Option ((Int32 × Int32 × Int32 × Wd) ⊕ (Int32 × Wd)) :=
  if l4 < 0 then
    some (.inr (l3, w5))
  else
    gd_ (!((w5.1 42 6) == 0)) <|
    gd_ (ib l4 6) <|
    lt_ (upI w5 59 (l4.toNatClampNeg) (jrem l2 (w5.1 42 6))) fun (w8 : Wd) =>
    gd_ (!((w8.1 42 6) == 0)) <|
    lt_ (l2 / (w8.1 42 6)) fun (v11 : Int32) =>
    lt_ (l3 ||| ((1 : Int32) <<< ((w8.1 59 l4.toNatClampNeg) &&& 31))) fun (v12 : Int32) =>
    lt_ (l4 + (-1)) fun (v13 : Int32) =>
    some (.inl (v11, v12, v13, w8))
def fX10_tellsOrder (w : Wd) (a1 : Int32) : Option (Int32 × Wd) :=
  lt_ ((w.1 42 6) - 1) fun (v1 : Int32) =>
  (iter (fun s : Int32 × Int32 × Int32 × Wd => fX10_tellsOrder_b12 s.1 s.2.1 s.2.2.1 s.2.2.2) FU (a1, 0, v1, w)).bind fun x14 => un2 x14 fun (l15 : Int32) (w16 : Wd) =>
  (fX10_bits l15).bind fun (r17 : Int32) =>
  if r17 = (w16.1 42 6) then
    some (1, w16)
  else
    some (0, w16)
def fX10_doorBy_b2 (a1 : Int32) (l1 : Int32) (w2 : Wd) : Option ((Int32 × Wd) ⊕ (Wd)) :=
  if (w2.1 42 6) ≤ l1 then
    some (.inr w2)
  else
    gd_ (ib l1 6) <|
    gd_ (ib (w2.1 59 l1.toNatClampNeg) 8) <|
    gd_ (ib l1 8) <|
    lt_ (upI w2 45 (l1.toNatClampNeg) (w2.1 61 (w2.1 59 l1.toNatClampNeg).toNatClampNeg)) fun (w6 : Wd) =>
    gd_ (ib (w6.1 59 l1.toNatClampNeg) 8) <|
    lt_ (upI w6 46 (l1.toNatClampNeg) (w6.1 62 (w6.1 59 l1.toNatClampNeg).toNatClampNeg)) fun (w9 : Wd) =>
    lt_ (upI w9 42 7 (((w9.1 42 7) &&& (((1 : Int32) <<< (l1 &&& 31)) ^^^ (-1))) ||| (((a1 >>> ((w9.1 59 l1.toNatClampNeg) &&& 31)) &&& 1) <<< (l1 &&& 31)))) fun (w10 : Wd) =>
    lt_ (l1 + 1) fun (v11 : Int32) =>
    some (.inl (v11, w10))
def fX10_doorBy (w : Wd) (a1 : Int32) : Option (Int32 × Wd) :=
  (iter (fun s : Int32 × Wd => fX10_doorBy_b2 a1 s.1 s.2) FU (0, w)).bind fun (w13 : Wd) =>
  (fX10_atDoor w13).bind fun q16 => un2 q16 fun (r15 : Int32) (w14 : Wd) =>
  (fX10_bits r15).bind fun (r17 : Int32) =>
  some (r17, w14)
def fX10_order_b65 (l4 : Int32) (l5 : Int32) (w6 : Wd) : Option ((Int32 × Int32 × Wd) ⊕ (Int32 × Wd)) :=
  if (w6.1 42 6) ≤ l5 then
    some (.inr (l4, w6))
  else
    gd_ (ib l5 8) <|
    lt_ (upI w6 61 (l5.toNatClampNeg) (w6.1 45 l5.toNatClampNeg)) fun (w9 : Wd) =>
    lt_ (upI w9 62 (l5.toNatClampNeg) (w9.1 46 l5.toNatClampNeg)) fun (w10 : Wd) =>
    lt_ (l4 * (w10.1 42 6)) fun (v11 : Int32) =>
    lt_ (l5 + 1) fun (v12 : Int32) =>
    some (.inl (v11, v12, w10))
def fX10_order_b163 (l27 : Int32) (w28 : Wd) : Option ((Int32 × Wd) ⊕ (Wd)) :=
  if (w28.1 42 6) ≤ l27 then
    some (.inr w28)
  else
    gd_ (ib l27 6) <|
    lt_ (upI w28 60 (l27.toNatClampNeg) (w28.1 59 l27.toNatClampNeg)) fun (w31 : Wd) =>
    lt_ (l27 + 1) fun (v32 : Int32) =>
    some (.inl (v32, w31))
def fX10_order_b120 (l14 : Int32) (v3 : Int32) (l16 : Int32) (l17 : Int32) (w18 : Wd) : Option ((Int32 × Int32 × Wd) ⊕ (Int32 × Wd)) :=
  if l14 ≤ l17 then
    some (.inr (l16, w18))
  else
    (fX10_tellsOrder w18 l17).bind fun q22 => un2 q22 fun (r21 : Int32) (w20 : Wd) =>
    if r21 = 0 then
      lt_ (l17 + 1) fun (v23 : Int32) =>
      some (.inl (l16, v23, w20))
    else
      (fX10_doorBy w20 v3).bind fun q26 => un2 q26 fun (r25 : Int32) (w24 : Wd) =>
      if l16 < r25 then
        (iter (fun s : Int32 × Wd => fX10_order_b163 s.1 s.2) FU (0, w24)).bind fun (w34 : Wd) =>
        lt_ (l17 + 1) fun (v35 : Int32) =>
        some (.inl (r25, v35, w34))
      else
        lt_ (l17 + 1) fun (v36 : Int32) =>
        some (.inl (l16, v36, w24))
def fX10_order_b215 (w40 : Wd) (l42 : Int32) (l43 : Int32) : Option ((Int32 × Int32) ⊕ (Int32)) :=
  if l43 < 0 then
    some (.inr l42)
  else
    gd_ (ib l43 6) <|
    lt_ ((10 * l42) + (w40.1 60 l43.toNatClampNeg)) fun (v46 : Int32) =>
    lt_ (l43 + (-1)) fun (v47 : Int32) =>
    some (.inl (v46, v47))
def fX10_order (w : Wd) (a1 : Int32) : Option (Int32 × Wd) :=
  lt_ (if (fX10_isIn a1 0 1) = 0 then
    ((-2) : Int32)
  else
    if (fX10_isIn (w.1 42 6) 1 6) = 0 then
      ((-3) : Int32)
    else
      (0 : Int32) : Int32) fun (v1 : Int32) =>
  if v1 = 0 then
    (fX10_passesAll w 1 1).bind fun (w2 : Wd) =>
    lt_ (w2.1 42 7) fun (v3 : Int32) =>
    (iter (fun s : Int32 × Int32 × Wd => fX10_order_b65 s.1 s.2.1 s.2.2) FU (1, 0, w2)).bind fun x13 => un2 x13 fun (l14 : Int32) (w15 : Wd) =>
    (iter (fun s : Int32 × Int32 × Wd => fX10_order_b120 l14 v3 s.1 s.2.1 s.2.2) FU ((-9), 0, w15)).bind fun x37 => un2 x37 fun (l38 : Int32) (w39 : Wd) =>
    (fX10_passesAll w39 1 0).bind fun (w40 : Wd) =>
    lt_ ((w40.1 42 6) - 1) fun (v41 : Int32) =>
    (iter (fun s : Int32 × Int32 => fX10_order_b215 w40 s.1 s.2) FU (0, v41)).bind fun (l49 : Int32) =>
    if a1 = 0 then
      some (l49, w40)
    else
      some (l38, w40)
  else
    (fX10_no w v1).bind fun q52 => un2 q52 fun (r51 : Int32) (w50 : Wd) =>
    some (r51, w50)
def fX10_withLanterns_b8 (a1 : Int32) (l2 : Int32) (w3 : Wd) : Option ((Int32 × Wd) ⊕ (Wd)) :=
  if (w3.1 42 6) ≤ l2 then
    some (.inr w3)
  else
    (if (fX10_has a1 l2) = 0 then
      gd_ (ib l2 8) <|
      some (w3.1 45 l2.toNatClampNeg)
    else
      some (3 : Int32) : Option Int32).bind fun (v6 : Int32) =>
    gd_ (ib l2 8) <|
    lt_ (upI w3 45 (l2.toNatClampNeg) v6) fun (w8 : Wd) =>
    lt_ (l2 + 1) fun (v10 : Int32) =>
    some (.inl (v10, w8))
def fX10_withLanterns_b66 (w14 : Wd) (l17 : Int32) (l18 : Int32) : Option ((Int32 × Int32) ⊕ (Int32)) :=
  if (w14.1 42 6) ≤ l18 then
    some (.inr l17)
  else
    gd_ (ib l18 8) <|
    lt_ (if (w14.1 45 l18.toNatClampNeg) = 6 then
      (1 : Int32) <<< (l18 &&& 31)
    else
      (0 : Int32) : Int32) fun (v21 : Int32) =>
    lt_ (l17 ||| v21) fun (v22 : Int32) =>
    lt_ (l18 + 1) fun (v23 : Int32) =>
    some (.inl (v22, v23))
def fX10_withLanterns (w : Wd) (a1 : Int32) : Option (Int32 × Wd) :=
  (fX10_passesAll w 1 1).bind fun (w1 : Wd) =>
  (iter (fun s : Int32 × Wd => fX10_withLanterns_b8 a1 s.1 s.2) FU (0, w1)).bind fun (w12 : Wd) =>
  lt_ (upI w12 42 7 ((w12.1 42 7) ||| a1)) fun (w13 : Wd) =>
  (fX10_atDoor w13).bind fun q16 => un2 q16 fun (r15 : Int32) (w14 : Wd) =>
  (iter (fun s : Int32 × Int32 => fX10_withLanterns_b66 w14 s.1 s.2) FU (0, 0)).bind fun (l25 : Int32) =>
  lt_ (if (((1 : Int32) <<< ((w14.1 42 6) &&& 31)) - 1) &&& ((r15 ||| l25) ^^^ (-1)) = 0 then
    (1 : Int32)
  else
    (0 : Int32) : Int32) fun (v26 : Int32) =>
  gd_ (bz v26) <|
  lt_ (upI w14 42 32 v26) fun (w27 : Wd) =>
  (fX10_passesAll w27 1 0).bind fun (w29 : Wd) =>
  some (r15, w29)
def fX10_lantern_b47 (l2 : Int32) (l3 : Int32) (l4 : Int32) (w5 : Wd) : Option ((Int32 × Int32 × Int32 × Wd) ⊕ (Int32 × Int32 × Wd)) :=
  if (w5.1 42 6) ≤ l4 then
    some (.inr (l2, l3, w5))
  else
    (fX10_withLanterns w5 ((1 : Int32) <<< (l4 &&& 31))).bind fun q9 => un2 q9 fun (r8 : Int32) (w7 : Wd) =>
    (fX10_bits r8).bind fun (r10 : Int32) =>
    if l3 < r10 then
      lt_ (l4 + 1) fun (v11 : Int32) =>
      some (.inl (l4, r10, v11, w7))
    else
      lt_ (l4 + 1) fun (v12 : Int32) =>
      some (.inl (l2, l3, v12, w7))
def fX10_lantern (w : Wd) (a1 : Int32) : Option (Int32 × Wd) :=
  lt_ (if (fX10_isIn a1 0 1) = 0 then
    ((-2) : Int32)
  else
    if (w.1 42 6) = 0 then
      ((-3) : Int32)
    else
      (0 : Int32) : Int32) fun (v1 : Int32) =>
  if v1 = 0 then
    (iter (fun s : Int32 × Int32 × Int32 × Wd => fX10_lantern_b47 s.1 s.2.1 s.2.2.1 s.2.2.2) FU (0, (-9), 0, w)).bind fun x13 => un3 x13 fun (l14 : Int32) (l15 : Int32) (w16 : Wd) =>
    if a1 = 0 then
      some (l14, w16)
    else
      some (l15, w16)
  else
    (fX10_no w v1).bind fun q19 => un2 q19 fun (r18 : Int32) (w17 : Wd) =>
    some (r18, w17)
def fX10_fewest_b21 (l4 : Int32) (l5 : Int32) (w6 : Wd) : Option ((Int32 × Int32 × Wd) ⊕ (Int32 × Wd)) :=
  if (1 : Int32) <<< ((w6.1 42 6) &&& 31) ≤ l5 then
    some (.inr (l4, w6))
  else
    (fX10_withLanterns w6 l5).bind fun q10 => un2 q10 fun (r9 : Int32) (w8 : Wd) =>
    if (w8.1 42 32) = 0 then
      lt_ (l5 + 1) fun (v11 : Int32) =>
      some (.inl (l4, v11, w8))
    else
      if l4 < 0 then
        lt_ (l5 + 1) fun (v12 : Int32) =>
        some (.inl (l5, v12, w8))
      else
        (fX10_bits l5).bind fun (r13 : Int32) =>
        (fX10_bits l4).bind fun (r14 : Int32) =>
        if r14 ≤ r13 then
          lt_ (l5 + 1) fun (v15 : Int32) =>
          some (.inl (l4, v15, w8))
        else
          lt_ (l5 + 1) fun (v16 : Int32) =>
          some (.inl (l5, v16, w8))
def fX10_fewest (w : Wd) (a1 : Int32) : Option (Int32 × Wd) :=
  if (fX10_isIn a1 0 1) = 0 then
    (fX10_no w (-2)).bind fun q3 => un2 q3 fun (r2 : Int32) (w1 : Wd) =>
    some (r2, w1)
  else
    (iter (fun s : Int32 × Int32 × Wd => fX10_fewest_b21 s.1 s.2.1 s.2.2) FU ((-9), 0, w)).bind fun x17 => un2 x17 fun (l18 : Int32) (w19 : Wd) =>
    if a1 = 1 then
      some (l18, w19)
    else
      if (0 : Int32) ≤ l18 then
        (fX10_bits l18).bind fun (r20 : Int32) =>
        some (r20, w19)
      else
        some (l18, w19)
def fX10_doorByMatch_j36 (w7 : Wd) (l6 : Int32) : Option ((Int32 × Wd) ⊕ (Wd)) :=
  (fX10_goes w7 0).bind fun (w8 : Wd) =>
  lt_ (l6 + 1) fun (v9 : Int32) =>
  some (.inl (v9, w8))
def fX10_doorByMatch_b8 (a1 : Int32) (a2 : Int32) (l2 : Int32) (w3 : Wd) : Option ((Int32 × Wd) ⊕ (Wd)) :=
  if (fX10_doorAt w3) ≤ (w3.1 42 8) then
    some (.inr w3)
  else
    if l2 = a1 then
      lt_ (upI w3 42 7 ((w3.1 42 7) ||| ((1 : Int32) <<< (a2 &&& 31)))) fun (w5 : Wd) =>
      fX10_doorByMatch_j36 w5 l2
    else
      fX10_doorByMatch_j36 w3 l2
def fX10_doorByMatch (w : Wd) (a1 : Int32) (a2 : Int32) : Option (Int32 × Wd) :=
  (fX10_passesAll w 2 1).bind fun (w1 : Wd) =>
  (iter (fun s : Int32 × Wd => fX10_doorByMatch_b8 a1 a2 s.1 s.2) FU (0, w1)).bind fun (w11 : Wd) =>
  (fX10_bits (w11.1 42 7)).bind fun (r12 : Int32) =>
  (fX10_passesAll w11 2 0).bind fun (w13 : Wd) =>
  some (r12, w13)
def fX10_match_b30 (l8 : Int32) (l11 : Int32) (l12 : Int32) (l13 : Int32) (w14 : Wd) : Option ((Int32 × Int32 × Int32 × Wd) ⊕ (Int32 × Int32 × Wd)) :=
  if (w14.1 42 6) ≤ l13 then
    some (.inr (l11, l12, w14))
  else
    gd_ (ib l13 8) <|
    if (w14.1 45 l13.toNatClampNeg) = 6 then
      lt_ (l13 + 1) fun (v17 : Int32) =>
      some (.inl (l11, l12, v17, w14))
    else
      (fX10_doorByMatch w14 l8 l13).bind fun q20 => un2 q20 fun (r19 : Int32) (w18 : Wd) =>
      if l11 < r19 then
        (fX10_doorByMatch w18 l8 l13).bind fun q23 => un2 q23 fun (r22 : Int32) (w21 : Wd) =>
        lt_ ((10 * l8) + l13) fun (v24 : Int32) =>
        lt_ (l13 + 1) fun (v25 : Int32) =>
        some (.inl (r22, v24, v25, w21))
      else
        lt_ (l13 + 1) fun (v26 : Int32) =>
        some (.inl (l11, l12, v26, w18))
def fX10_match_b23 (l6 : Int32) (l7 : Int32) (l8 : Int32) (w9 : Wd) : Option ((Int32 × Int32 × Int32 × Wd) ⊕ (Int32 × Wd)) :=
  if l8 < 0 then
    some (.inr (l7, w9))
  else
    (iter (fun s : Int32 × Int32 × Int32 × Wd => fX10_match_b30 l8 s.1 s.2.1 s.2.2.1 s.2.2.2) FU (l6, l7, 0, w9)).bind fun x27 => un3 x27 fun (l28 : Int32) (l29 : Int32) (w30 : Wd) =>
    lt_ (l8 + (-1)) fun (v31 : Int32) =>
    some (.inl (l28, l29, v31, w30))
def fX10_match (w : Wd) : Option (Int32 × Wd) :=
  (fX10_atDoor w).bind fun q3 => un2 q3 fun (r2 : Int32) (w1 : Wd) =>
  (fX10_bits r2).bind fun (r4 : Int32) =>
  lt_ (((fX10_doorAt w1) - (w1.1 42 8)) - 1) fun (v5 : Int32) =>
  (iter (fun s : Int32 × Int32 × Int32 × Wd => fX10_match_b23 s.1 s.2.1 s.2.2.1 s.2.2.2) FU (r4, (-9), v5, w1)).bind fun x32 => un2 x32 fun (l33 : Int32) (w34 : Wd) =>
  some (l33, w34)
def fX10_tail_b32 (l9 : Int32) (l10 : Int32) (l11 : Int32) (l12 : Int32) (w13 : Wd) : Option ((Int32 × Int32 × Int32 × Int32 × Wd) ⊕ (Int32 × Wd)) :=
  if (w13.1 42 6) ≤ l12 then
    some (.inr (l9, w13))
  else
    (fX10_passesAll w13 1 1).bind fun (w15 : Wd) =>
    lt_ (upI w15 42 6 ((w15.1 42 6) - l12)) fun (w16 : Wd) =>
    lt_ (upI w16 42 7 ((w16.1 42 7) &&& (((1 : Int32) <<< ((w16.1 42 6) &&& 31)) - 1))) fun (w17 : Wd) =>
    (fX10_atDoor w17).bind fun q20 => un2 q20 fun (r19 : Int32) (w18 : Wd) =>
    (fX10_bits r19).bind fun (r21 : Int32) =>
    lt_ (w18.1 42 6) fun (v22 : Int32) =>
    (fX10_passesAll w18 1 0).bind fun (w23 : Wd) =>
    if (l10 * v22) < (r21 * l11) then
      lt_ (l12 + 1) fun (v24 : Int32) =>
      some (.inl (l12, r21, v22, v24, w23))
    else
      lt_ (l12 + 1) fun (v25 : Int32) =>
      some (.inl (l9, l10, l11, v25, w23))
def fX10_tail (w : Wd) : Option (Int32 × Wd) :=
  if (w.1 42 6) = 0 then
    (fX10_no w (-3)).bind fun q3 => un2 q3 fun (r2 : Int32) (w1 : Wd) =>
    some (r2, w1)
  else
    (fX10_atDoor w).bind fun q6 => un2 q6 fun (r5 : Int32) (w4 : Wd) =>
    (fX10_bits r5).bind fun (r7 : Int32) =>
    lt_ (w4.1 42 6) fun (v8 : Int32) =>
    (iter (fun s : Int32 × Int32 × Int32 × Int32 × Wd => fX10_tail_b32 s.1 s.2.1 s.2.2.1 s.2.2.2.1 s.2.2.2.2) FU (0, r7, v8, 1, w4)).bind fun x26 => un2 x26 fun (l27 : Int32) (w28 : Wd) =>
    some (l27, w28)
def fX10_isSomebodyDark_b2 (w : Wd) (l1 : Int32) : Option ((Int32) ⊕ (Int32)) :=
  if (w.1 42 6) ≤ l1 then
    some (.inr (0 : Int32))
  else
    gd_ (ib l1 8) <|
    if (w.1 45 l1.toNatClampNeg) = 6 then
      lt_ (l1 + 1) fun (v3 : Int32) =>
      some (.inl v3)
    else
      if (fX10_has (w.1 42 7) l1) = 0 then
        some (.inr (1 : Int32))
      else
        lt_ (l1 + 1) fun (v4 : Int32) =>
        some (.inl v4)
def fX10_isSomebodyDark (w : Wd) : Option (Int32) :=
  iter (fun s : Int32 => fX10_isSomebodyDark_b2 w s) FU (0 : Int32)
def fX10_doesStop (w : Wd) (a1 : Int32) : Option (Int32) :=
  if (w.1 42 7) = 0 then
    some (0 : Int32)
  else
    if a1 = 1 then
      (fX10_bits (w.1 42 7)).bind fun (r2 : Int32) =>
      if (w.1 42 6) ≤ (2 * r2) then
        some (0 : Int32)
      else
        some (1 : Int32)
    else if a1 = 2 then
      (fX10_isSomebodyDark w).bind fun (r4 : Int32) =>
      gd_ (bz r4) <|
      some r4
    else if a1 = 3 then
      gd_ (ib (w.1 42 8) 25) <|
      if (2 : Int32) < (w.1 47 (w.1 42 8).toNatClampNeg) then
        some (0 : Int32)
      else
        (fX10_isSomebodyDark w).bind fun (r8 : Int32) =>
        if r8 = 0 then
          some (0 : Int32)
        else
          some (1 : Int32)
    else if a1 = 4 then
      gd_ (ib ((w.1 42 8) + 1) 25) <|
      if (w.1 47 ((w.1 42 8) + 1).toNatClampNeg) ≤ 5 then
        some (0 : Int32)
      else
        (fX10_isSomebodyDark w).bind fun (r11 : Int32) =>
        if r11 = 0 then
          some (0 : Int32)
        else
          some (1 : Int32)
    else 
      some (0 : Int32)
def fX10_goesByRule_b13 (a1 : Int32) (l3 : Int32) (w4 : Wd) : Option ((Int32 × Wd) ⊕ (Wd)) :=
  if (fX10_doorAt w4) ≤ (w4.1 42 8) then
    some (.inr w4)
  else
    (if (5 : Int32) ≤ l3 then
      some (0 : Int32)
    else
      (fX10_doesStop w4 a1).bind fun (r8 : Int32) =>
      if r8 = 0 then
        some (0 : Int32)
      else
        some (1 : Int32) : Option Int32).bind fun (v7 : Int32) =>
    (fX10_goes w4 v7).bind fun (w9 : Wd) =>
    lt_ (if v7 = 0 then
      (0 : Int32)
    else
      l3 + 1 : Int32) fun (v10 : Int32) =>
    lt_ (upI w9 42 34 ((w9.1 42 34) + 1)) fun (w11 : Wd) =>
    some (.inl (v10, w11))
def fX10_goesByRule (w : Wd) (a1 : Int32) : Option (Wd) :=
  (fX10_passesAll w 1 1).bind fun (w1 : Wd) =>
  lt_ (upI w1 42 34 0) fun (w2 : Wd) =>
  (iter (fun s : Int32 × Wd => fX10_goesByRule_b13 a1 s.1 s.2) FU (0, w2)).bind fun (w13 : Wd) =>
  (fX10_bits (w13.1 42 7)).bind fun (r14 : Int32) =>
  lt_ (upI w13 42 33 r14) fun (w15 : Wd) =>
  (fX10_passesAll w15 1 0).bind fun (w16 : Wd) =>
  some w16
def fX10_rule_j18 (w1 : Wd) : Option (Int32 × Wd) :=
  (fX10_no w1 (-2)).bind fun q4 => un2 q4 fun (r3 : Int32) (w2 : Wd) =>
  some (r3, w2)
def fX10_rule (w : Wd) (a1 : Int32) (a2 : Int32) : Option (Int32 × Wd) :=
  if (fX10_isIn a1 0 4) = 0 then
    fX10_rule_j18 w
  else
    if (fX10_isIn a2 0 1) = 0 then
      fX10_rule_j18 w
    else
      (fX10_goesByRule w a1).bind fun (w5 : Wd) =>
      if a2 = 0 then
        some (w5.1 42 33, w5)
      else
        some (w5.1 42 34, w5)
def fX10_best_j59 (w13 : Wd) (l12 : Int32) : Option ((Int32 × Int32 × Int32 × Int32 × Wd) ⊕ (Int32 × Wd)) :=
  lt_ (w13.1 42 33) fun (v14 : Int32) =>
  lt_ (w13.1 42 34) fun (v15 : Int32) =>
  lt_ (l12 + 1) fun (v16 : Int32) =>
  some (.inl (l12, v14, v15, v16, w13))
def fX10_best_b20 (l4 : Int32) (l5 : Int32) (l6 : Int32) (l7 : Int32) (w8 : Wd) : Option ((Int32 × Int32 × Int32 × Int32 × Wd) ⊕ (Int32 × Wd)) :=
  if (5 : Int32) ≤ l7 then
    some (.inr (l4, w8))
  else
    (fX10_goesByRule w8 l7).bind fun (w10 : Wd) =>
    if (w10.1 42 33) < l5 then
      lt_ (l7 + 1) fun (v11 : Int32) =>
      some (.inl (l4, l5, l6, v11, w10))
    else
      if (w10.1 42 33) = l5 then
        if (w10.1 42 34) < l6 then
          fX10_best_j59 w10 l7
        else
          lt_ (l7 + 1) fun (v17 : Int32) =>
          some (.inl (l4, l5, l6, v17, w10))
      else
        fX10_best_j59 w10 l7
def fX10_best (w : Wd) : Option (Int32 × Wd) :=
  (fX10_goesByRule w 0).bind fun (w1 : Wd) =>
  lt_ (w1.1 42 33) fun (v2 : Int32) =>
  lt_ (w1.1 42 34) fun (v3 : Int32) =>
  (iter (fun s : Int32 × Int32 × Int32 × Int32 × Wd => fX10_best_b20 s.1 s.2.1 s.2.2.1 s.2.2.2.1 s.2.2.2.2) FU (0, v2, v3, 1, w1)).bind fun x18 => un2 x18 fun (l19 : Int32) (w20 : Wd) =>
  some (l19, w20)
def fX10_calm (w : Wd) (a1 : Int32) (a2 : Int32) : Option (Int32 × Wd) :=
  lt_ (if a1 < 1 then
    ((-4) : Int32)
  else
    if (0 : Int32) ≤ a2 then
      if (99 : Int32) < a1 then
        ((-6) : Int32)
      else
        if a2 ≤ 99 then
          (0 : Int32)
        else
          ((-6) : Int32)
    else
      ((-4) : Int32) : Int32) fun (v1 : Int32) =>
  if v1 = 0 then
    gd_ (!(((2 * a2) + 1) == 0)) <|
    some ((a1 + (2 * a2)) / ((2 * a2) + 1), w)
  else
    (fX10_no w v1).bind fun q5 => un2 q5 fun (r4 : Int32) (w3 : Wd) =>
    some (r4, w3)
def fX10_spreads (w : Wd) (a1 : Int32) (a2 : Int32) : Option (Int32 × Wd) :=
  lt_ (if a1 < 1 then
    ((-4) : Int32)
  else
    if (0 : Int32) ≤ a2 then
      if (99 : Int32) < a1 then
        ((-6) : Int32)
      else
        if a2 ≤ 99 then
          if a2 < a1 then
            (0 : Int32)
          else
            ((-1) : Int32)
        else
          ((-6) : Int32)
    else
      ((-4) : Int32) : Int32) fun (v1 : Int32) =>
  if v1 = 0 then
    if a2 ≤ ((a1 - 1) - a2) then
      some ((a1 - 1) - a2, w)
    else
      some (a2, w)
  else
    (fX10_no w v1).bind fun q4 => un2 q4 fun (r3 : Int32) (w2 : Wd) =>
    some (r3, w2)
def fX10_lowest (w : Wd) (a1 : Int32) : Option (Int64 × Wd) :=
  gd_ (ib (-a1) 7) <|
  lt_ (upI w 43 ((-a1).toNatClampNeg) ((w.1 43 (-a1).toNatClampNeg) + 1)) fun (w2 : Wd) =>
  some (4000000000000000000 - (a1.toInt64), w2)
def fX10_tenthsOut (w : Wd) (a1 : Int32) : Option (Int32) :=
  gd_ (ib a1 8) <|
  if (w.1 45 a1.toNatClampNeg) = 3 then
    some (0 : Int32)
  else
    (fX10_feltBy w a1 (w.1 42 8)).bind fun (r2 : Int32) =>
    lt_ ((r2 - (fX10_holdsOf (w.1 45 a1.toNatClampNeg) (w.1 46 a1.toNatClampNeg))) + 2) fun (v3 : Int32) =>
    if (0 : Int32) ≤ v3 then
      if v3 ≤ 9 then
        some v3
      else
        some (9 : Int32)
    else
      some (0 : Int32)
def fX10_stays_b5 (w : Wd) (a1 : Int32) (a2 : Int32) (l1 : Int64) (l2 : Int32) : Option ((Int64 × Int32) ⊕ (Int64)) :=
  if (w.1 42 6) ≤ l2 then
    some (.inr l1)
  else
    (fX10_tenthsOut w l2).bind fun (r4 : Int32) =>
    lt_ (if (fX10_has a1 l2) = 0 then
      (10 : Int64)
    else
      if (fX10_has a2 l2) = 0 then
        r4.toInt64
      else
        (10 - r4).toInt64 : Int64) fun (v5 : Int64) =>
    lt_ (l1 * v5) fun (v6 : Int64) =>
    lt_ (l2 + 1) fun (v7 : Int32) =>
    some (.inl (v6, v7))
def fX10_stays (w : Wd) (a1 : Int32) (a2 : Int32) : Option (Int64) :=
  (iter (fun s : Int64 × Int32 => fX10_stays_b5 w a1 a2 s.1 s.2) FU (1, 0)).bind fun (l9 : Int64) =>
  some l9
def fX10_goesChances_b2 (l1 : Int32) (w2 : Wd) : Option ((Int32 × Wd) ⊕ (Wd)) :=
  if (16 : Int32) ≤ l1 then
    some (.inr w2)
  else
    gd_ (ib l1 16) <|
    lt_ (upJ w2 64 (l1.toNatClampNeg) 0) fun (w4 : Wd) =>
    lt_ (l1 + 1) fun (v6 : Int32) =>
    some (.inl (v6, w4))
def fX10_goesChances_b23 (l9 : Int32) (w10 : Wd) : Option ((Int32 × Wd) ⊕ (Wd)) :=
  if (256 : Int32) ≤ l9 then
    some (.inr w10)
  else
    lt_ (l9 / 16) fun (v12 : Int32) =>
    lt_ (jrem l9 16) fun (v13 : Int32) =>
    gd_ (ib v12 16) <|
    if (lg_cmp (w10.2 63 v12.toNatClampNeg) 0) = 0 then
      lt_ (l9 + 1) fun (v15 : Int32) =>
      some (.inl (v15, w10))
    else
      if (v13 &&& (v12 ^^^ (-1))) = 0 then
        (fX10_spread w10 v13).bind fun q18 => un2 q18 fun (r17 : Int32) (w16 : Wd) =>
        gd_ (ib r17 16) <|
        (fX10_stays w16 v12 v13).bind fun (r20 : Int64) =>
        lt_ (upJ w16 64 (r17.toNatClampNeg) ((w16.2 64 r17.toNatClampNeg) + ((w16.2 63 v12.toNatClampNeg) * r20))) fun (w21 : Wd) =>
        lt_ (l9 + 1) fun (v22 : Int32) =>
        some (.inl (v22, w21))
      else
        lt_ (l9 + 1) fun (v23 : Int32) =>
        some (.inl (v23, w10))
def fX10_goesChances_b96 (l26 : Int32) (w27 : Wd) : Option ((Int32 × Wd) ⊕ (Wd)) :=
  if (16 : Int32) ≤ l26 then
    some (.inr w27)
  else
    gd_ (ib l26 16) <|
    lt_ (upJ w27 63 (l26.toNatClampNeg) (w27.2 64 l26.toNatClampNeg)) fun (w30 : Wd) =>
    lt_ (l26 + 1) fun (v31 : Int32) =>
    some (.inl (v31, w30))
def fX10_goesChances (w : Wd) : Option (Wd) :=
  (iter (fun s : Int32 × Wd => fX10_goesChances_b2 s.1 s.2) FU (0, w)).bind fun (w8 : Wd) =>
  (iter (fun s : Int32 × Wd => fX10_goesChances_b23 s.1 s.2) FU (0, w8)).bind fun (w25 : Wd) =>
  (iter (fun s : Int32 × Wd => fX10_goesChances_b96 s.1 s.2) FU (0, w25)).bind fun (w33 : Wd) =>
  lt_ (upI w33 42 8 ((w33.1 42 8) + 1)) fun (w34 : Wd) =>
  some w34
def fX10_divisor_b6 (l1 : Int64) (l2 : Int64) : Option ((Int64 × Int64) ⊕ (Int64)) :=
  if (lg_cmp l2 0) = 0 then
    some (.inr l1)
  else
    gd_ (!(l2 == 0)) <|
    lt_ (jremL l1 l2) fun (v5 : Int64) =>
    some (.inl (l2, v5))
def fX10_divisor (a0 : Int64) (a2 : Int64) : Option (Int64) :=
  (iter (fun s : Int64 × Int64 => fX10_divisor_b6 s.1 s.2) FU (a0, a2)).bind fun (l7 : Int64) =>
  some l7
def fX10_chances_b86 (l6 : Int32) (w7 : Wd) : Option ((Int32 × Wd) ⊕ (Wd)) :=
  if (16 : Int32) ≤ l6 then
    some (.inr w7)
  else
    lt_ (if l6 = (w7.1 42 7) then
      (1 : Int64)
    else
      (0 : Int64) : Int64) fun (v9 : Int64) =>
    gd_ (ib l6 16) <|
    lt_ (upJ w7 63 (l6.toNatClampNeg) v9) fun (w10 : Wd) =>
    lt_ (l6 + 1) fun (v12 : Int32) =>
    some (.inl (v12, w10))
def fX10_chances_b139 (w19 : Wd) (l20 : Int64) (l21 : Int32) : Option ((Int64 × Int32) ⊕ (Int64)) :=
  if (w19.1 42 6) ≤ l21 then
    some (.inr l20)
  else
    lt_ (l20 * 10) fun (v23 : Int64) =>
    lt_ (l21 + 1) fun (v24 : Int32) =>
    some (.inl (v23, v24))
def fX10_chances_b126 (a1 : Int32) (l15 : Int64) (l16 : Int32) (w17 : Wd) : Option ((Int64 × Int32 × Wd) ⊕ (Int64 × Wd)) :=
  if a1 ≤ l16 then
    some (.inr (l15, w17))
  else
    (fX10_goesChances w17).bind fun (w19 : Wd) =>
    (iter (fun s : Int64 × Int32 => fX10_chances_b139 w19 s.1 s.2) FU (l15, 0)).bind fun (l26 : Int64) =>
    lt_ (l16 + 1) fun (v27 : Int32) =>
    some (.inl (l26, v27, w19))
def fX10_chances_b180 (a2 : Int32) (w31 : Wd) (l32 : Int64) (l33 : Int32) : Option ((Int64 × Int32) ⊕ (Int64)) :=
  if (16 : Int32) ≤ l33 then
    some (.inr l32)
  else
    gd_ (ib l33 16) <|
    (if a2 = 0 then
      some (1 : Int32)
    else
      (fX10_bits l33).bind fun (r38 : Int32) =>
      some r38 : Option Int32).bind fun (v37 : Int32) =>
    lt_ (l32 + ((w31.2 63 l33.toNatClampNeg) * (v37.toInt64))) fun (v39 : Int64) =>
    lt_ (l33 + 1) fun (v40 : Int32) =>
    some (.inl (v39, v40))
def fX10_chances_j65 (a1 : Int32) (a2 : Int32) (a3 : Int32) (w4 : Wd) (l3 : Int32) : Option (Int64 × Wd) :=
  if l3 = 0 then
    lt_ (w4.1 42 8) fun (v5 : Int32) =>
    (iter (fun s : Int32 × Wd => fX10_chances_b86 s.1 s.2) FU (0, w4)).bind fun (w14 : Wd) =>
    (iter (fun s : Int64 × Int32 × Wd => fX10_chances_b126 a1 s.1 s.2.1 s.2.2) FU (1, 0, w14)).bind fun x28 => un2 x28 fun (l29 : Int64) (w30 : Wd) =>
    lt_ (upI w30 42 8 v5) fun (w31 : Wd) =>
    (iter (fun s : Int64 × Int32 => fX10_chances_b180 a2 w31 s.1 s.2) FU (0, 1)).bind fun (l42 : Int64) =>
    lt_ (if a3 = 0 then
      l42
    else
      l29 : Int64) fun (v43 : Int64) =>
    (fX10_divisor l42 l29).bind fun (r44 : Int64) =>
    gd_ (!(r44 == 0)) <|
    some (v43 / r44, w31)
  else
    (fX10_lowest w4 l3).bind fun q48 => un2 q48 fun (r47 : Int64) (w46 : Wd) =>
    some (r47, w46)
def fX10_chances (w : Wd) (a1 : Int32) (a2 : Int32) (a3 : Int32) : Option (Int64 × Wd) :=
  lt_ (fX10_bound a1 0 3) fun (v1 : Int32) =>
  if v1 = 0 then
    lt_ (if (fX10_isIn a2 0 1) = 0 then
      ((-2) : Int32)
    else
      if (fX10_isIn a3 0 1) = 0 then
        ((-2) : Int32)
      else
        if (4 : Int32) < (w.1 42 6) then
          ((-3) : Int32)
        else
          if (w.1 42 8) + a1 ≤ (fX10_doorAt w) then
            (0 : Int32)
          else
            ((-3) : Int32) : Int32) fun (v2 : Int32) =>
    fX10_chances_j65 a1 a2 a3 w v2
  else
    fX10_chances_j65 a1 a2 a3 w v1
def fX10_smallBits_b4 (w : Wd) (l1 : Int32) (l2 : Int32) : Option ((Int32 × Int32) ⊕ (Int32)) :=
  if (w.1 42 6) ≤ l2 then
    some (.inr l1)
  else
    gd_ (ib l2 8) <|
    lt_ (if (w.1 45 l2.toNatClampNeg) = 6 then
      (1 : Int32) <<< (l2 &&& 31)
    else
      (0 : Int32) : Int32) fun (v5 : Int32) =>
    lt_ (l1 ||| v5) fun (v6 : Int32) =>
    lt_ (l2 + 1) fun (v7 : Int32) =>
    some (.inl (v6, v7))
def fX10_smallBits (w : Wd) : Option (Int32) :=
  (iter (fun s : Int32 × Int32 => fX10_smallBits_b4 w s.1 s.2) FU (0, 0)).bind fun (l9 : Int32) =>
  some l9
def fX10_areAllLit (w : Wd) (a1 : Int32) : Option (Int32) :=
  (fX10_smallBits w).bind fun (r1 : Int32) =>
  if (((1 : Int32) <<< ((w.1 42 6) &&& 31)) - 1) &&& ((a1 ||| r1) ^^^ (-1)) = 0 then
    some (1 : Int32)
  else
    some (0 : Int32)
def fX10_all_b7 (l2 : Int32) (l3 : Int32) (w4 : Wd) : Option ((Int32 × Int32 × Wd) ⊕ (Int32 × Wd)) :=
  if (61 : Int32) ≤ l3 then
    some (.inr ((-9), w4))
  else
    (fX10_areAllLit w4 l2).bind fun (r5 : Int32) =>
    if r5 = 0 then
      (fX10_spread w4 l2).bind fun q8 => un2 q8 fun (r7 : Int32) (w6 : Wd) =>
      lt_ (l3 + 1) fun (v9 : Int32) =>
      some (.inl (r7, v9, w6))
    else
      some (.inr (l3, w4))
def fX10_all (w : Wd) : Option (Int32 × Wd) :=
  lt_ (w.1 42 7) fun (v1 : Int32) =>
  iter (fun s : Int32 × Int32 × Wd => fX10_all_b7 s.1 s.2.1 s.2.2) FU (v1, 0, w)
def fX10_behind_b26 (a1 : Int32) (l3 : Int32) (l4 : Int32) (w5 : Wd) : Option ((Int32 × Int32 × Wd) ⊕ (Int32 × Wd)) :=
  if a1 ≤ l4 then
    some (.inr (l3, w5))
  else
    (fX10_spread w5 l3).bind fun q9 => un2 q9 fun (r8 : Int32) (w7 : Wd) =>
    lt_ (l4 + 1) fun (v10 : Int32) =>
    some (.inl (r8, v10, w7))
def fX10_behind (w : Wd) (a1 : Int32) : Option (Int32 × Wd) :=
  lt_ (fX10_bound a1 0 60) fun (v1 : Int32) =>
  if v1 = 0 then
    lt_ (w.1 42 7) fun (v2 : Int32) =>
    (iter (fun s : Int32 × Int32 × Wd => fX10_behind_b26 a1 s.1 s.2.1 s.2.2) FU (v2, 0, w)).bind fun x11 => un2 x11 fun (l12 : Int32) (w13 : Wd) =>
    some (l12, w13)
  else
    (fX10_no w v1).bind fun q16 => un2 q16 fun (r15 : Int32) (w14 : Wd) =>
    some (r15, w14)
def fX10_atFirst_j67 (w12 : Wd) (l10 : Int32) (l11 : Int32) : Option ((Int32 × Int32 × Wd) ⊕ (Int32 × Wd)) :=
  lt_ (upI w12 42 7 l11) fun (w13 : Wd) =>
  (fX10_atDoor w13).bind fun q16 => un2 q16 fun (r15 : Int32) (w14 : Wd) =>
  (fX10_areAllLit w14 r15).bind fun (r17 : Int32) =>
  if r17 = 0 then
    lt_ (l11 + 1) fun (v18 : Int32) =>
    some (.inl (l10, v18, w14))
  else
    lt_ (l11 + 1) fun (v19 : Int32) =>
    some (.inl (l11, v19, w14))
def fX10_atFirst_b27 (l5 : Int32) (l6 : Int32) (w7 : Wd) : Option ((Int32 × Int32 × Wd) ⊕ (Int32 × Wd)) :=
  if (1 : Int32) <<< ((w7.1 42 6) &&& 31) ≤ l6 then
    some (.inr (l5, w7))
  else
    (fX10_smallBits w7).bind fun (r9 : Int32) =>
    if (l6 &&& r9) = 0 then
      if l5 < 0 then
        fX10_atFirst_j67 w7 l5 l6
      else
        (fX10_bits l6).bind fun (r20 : Int32) =>
        (fX10_bits l5).bind fun (r21 : Int32) =>
        if r20 < r21 then
          fX10_atFirst_j67 w7 l5 l6
        else
          lt_ (l6 + 1) fun (v22 : Int32) =>
          some (.inl (l5, v22, w7))
    else
      lt_ (l6 + 1) fun (v23 : Int32) =>
      some (.inl (l5, v23, w7))
def fX10_atFirst (w : Wd) (a1 : Int32) : Option (Int32 × Wd) :=
  if (fX10_isIn a1 0 1) = 0 then
    (fX10_no w (-2)).bind fun q3 => un2 q3 fun (r2 : Int32) (w1 : Wd) =>
    some (r2, w1)
  else
    lt_ (w.1 42 7) fun (v4 : Int32) =>
    (iter (fun s : Int32 × Int32 × Wd => fX10_atFirst_b27 s.1 s.2.1 s.2.2) FU ((-9), 0, w)).bind fun x24 => un2 x24 fun (l25 : Int32) (w26 : Wd) =>
    lt_ (upI w26 42 7 v4) fun (w27 : Wd) =>
    if a1 = 1 then
      some (l25, w27)
    else
      if (0 : Int32) ≤ l25 then
        (fX10_bits l25).bind fun (r28 : Int32) =>
        some (r28, w27)
      else
        some (l25, w27)
def fX10_forms_b40 (l6 : Int32) (l7 : Int32) (l8 : Int32) (w9 : Wd) : Option ((Int32 × Int32 × Int32 × Wd) ⊕ (Int32 × Int32 × Wd)) :=
  if (6 : Int32) ≤ l8 then
    some (.inr (l6, l7, w9))
  else
    lt_ (upI w9 44 0 (l8 / 2)) fun (w11 : Wd) =>
    lt_ (upI w11 44 1 ((jrem l8 2) + 1)) fun (w12 : Wd) =>
    (fX10_atDoor w12).bind fun q15 => un2 q15 fun (r14 : Int32) (w13 : Wd) =>
    (fX10_bits r14).bind fun (r16 : Int32) =>
    if l7 < r16 then
      lt_ (((10 * (l8 / 2)) + (jrem l8 2)) + 1) fun (v17 : Int32) =>
      lt_ (l8 + 1) fun (v18 : Int32) =>
      some (.inl (v17, r16, v18, w13))
    else
      lt_ (l8 + 1) fun (v19 : Int32) =>
      some (.inl (l6, l7, v19, w13))
def fX10_forms (w : Wd) (a1 : Int32) : Option (Int32 × Wd) :=
  if (fX10_isIn a1 0 1) = 0 then
    (fX10_no w (-2)).bind fun q3 => un2 q3 fun (r2 : Int32) (w1 : Wd) =>
    some (r2, w1)
  else
    lt_ (w.1 44 0) fun (v4 : Int32) =>
    lt_ (w.1 44 1) fun (v5 : Int32) =>
    (iter (fun s : Int32 × Int32 × Int32 × Wd => fX10_forms_b40 s.1 s.2.1 s.2.2.1 s.2.2.2) FU (1, (-9), 0, w)).bind fun x20 => un3 x20 fun (l21 : Int32) (l22 : Int32) (w23 : Wd) =>
    lt_ (upI w23 44 0 v4) fun (w24 : Wd) =>
    lt_ (upI w24 44 1 v5) fun (w25 : Wd) =>
    if a1 = 0 then
      some (l21, w25)
    else
      some (l22, w25)
def fX10_doorCalm (w : Wd) (a1 : Int32) (a2 : Int32) : Option (Int32 × Wd) :=
  gd_ (ib a1 25) <|
  lt_ (w.1 47 a1.toNatClampNeg) fun (v2 : Int32) =>
  gd_ (ib a2 25) <|
  lt_ (w.1 47 a2.toNatClampNeg) fun (v4 : Int32) =>
  lt_ (upI w 47 (a1.toNatClampNeg) 0) fun (w5 : Wd) =>
  lt_ (upI w5 47 (a2.toNatClampNeg) 0) fun (w6 : Wd) =>
  (fX10_atDoor w6).bind fun q9 => un2 q9 fun (r8 : Int32) (w7 : Wd) =>
  (fX10_bits r8).bind fun (r10 : Int32) =>
  lt_ (upI w7 47 (a2.toNatClampNeg) v4) fun (w11 : Wd) =>
  lt_ (upI w11 47 (a1.toNatClampNeg) v2) fun (w12 : Wd) =>
  some (r10, w12)
def fX10_calms_b57 (a1 : Int32) (l11 : Int32) (l15 : Int32) (l16 : Int32) (l17 : Int32) (w18 : Wd) : Option ((Int32 × Int32 × Int32 × Wd) ⊕ (Int32 × Int32 × Wd)) :=
  lt_ (if a1 = 0 then
    l11 + 1
  else
    fX10_doorAt w18 : Int32) fun (v19 : Int32) =>
  if v19 ≤ l17 then
    some (.inr (l15, l16, w18))
  else
    (fX10_doorCalm w18 l11 l17).bind fun q23 => un2 q23 fun (r22 : Int32) (w21 : Wd) =>
    if l15 < r22 then
      lt_ (if a1 = 0 then
        l11
      else
        (100 * l11) + l17 : Int32) fun (v24 : Int32) =>
      lt_ (l17 + 1) fun (v25 : Int32) =>
      some (.inl (r22, v24, v25, w21))
    else
      lt_ (l17 + 1) fun (v26 : Int32) =>
      some (.inl (l15, l16, v26, w21))
def fX10_calms_b33 (a1 : Int32) (l9 : Int32) (l10 : Int32) (l11 : Int32) (w12 : Wd) : Option ((Int32 × Int32 × Int32 × Wd) ⊕ (Int32 × Wd)) :=
  if (fX10_doorAt w12) ≤ l11 then
    some (.inr (l10, w12))
  else
    lt_ (if a1 = 0 then
      l11
    else
      l11 + 1 : Int32) fun (v14 : Int32) =>
    (iter (fun s : Int32 × Int32 × Int32 × Wd => fX10_calms_b57 a1 l11 s.1 s.2.1 s.2.2.1 s.2.2.2) FU (l9, l10, v14, w12)).bind fun x27 => un3 x27 fun (l28 : Int32) (l29 : Int32) (w30 : Wd) =>
    lt_ (l11 + 1) fun (v31 : Int32) =>
    some (.inl (l28, l29, v31, w30))
def fX10_calms (w : Wd) (a1 : Int32) : Option (Int32 × Wd) :=
  if (fX10_isIn a1 0 1) = 0 then
    (fX10_no w (-2)).bind fun q3 => un2 q3 fun (r2 : Int32) (w1 : Wd) =>
    some (r2, w1)
  else
    (fX10_atDoor w).bind fun q6 => un2 q6 fun (r5 : Int32) (w4 : Wd) =>
    (fX10_bits r5).bind fun (r7 : Int32) =>
    lt_ (w4.1 42 8) fun (v8 : Int32) =>
    (iter (fun s : Int32 × Int32 × Int32 × Wd => fX10_calms_b33 a1 s.1 s.2.1 s.2.2.1 s.2.2.2) FU (r7, (-9), v8, w4)).bind fun x32 => un2 x32 fun (l33 : Int32) (w34 : Wd) =>
    some (l33, w34)
def fX10_farthest_b13 (l2 : Int32) (l3 : Int32) (w4 : Wd) : Option ((Int32 × Int32 × Wd) ⊕ (Int32 × Wd)) :=
  if l3 < (w4.1 42 8) then
    some (.inr (l2, w4))
  else
    if l3 ≤ 0 then
      some (.inr (l2, w4))
    else
      if (0 : Int32) ≤ l2 then
        some (.inr (l2, w4))
      else
        lt_ (upI w4 44 2 l3) fun (w8 : Wd) =>
        (fX10_atDoor w8).bind fun q11 => un2 q11 fun (r10 : Int32) (w9 : Wd) =>
        lt_ (if r10 = 0 then
          ((-9) : Int32)
        else
          l3 : Int32) fun (v12 : Int32) =>
        lt_ (l3 + (-1)) fun (v13 : Int32) =>
        some (.inl (v12, v13, w9))
def fX10_farthest_j56 (w19 : Wd) (l17 : Int32) (l18 : Int32) : Option (Int32 × Wd) :=
  lt_ (upI w19 44 2 l17) fun (w20 : Wd) =>
  some (l18, w20)
def fX10_farthest (w : Wd) : Option (Int32 × Wd) :=
  lt_ (w.1 44 2) fun (v1 : Int32) =>
  (iter (fun s : Int32 × Int32 × Wd => fX10_farthest_b13 s.1 s.2.1 s.2.2) FU ((-9), 24, w)).bind fun x14 => un2 x14 fun (l15 : Int32) (w16 : Wd) =>
  fX10_farthest_j56 w16 v1 l15
def fX10_turned_b8 (l2 : Int32) (w3 : Wd) : Option ((Int32 × Wd) ⊕ (Wd)) :=
  if (w3.1 42 6) / 2 ≤ l2 then
    some (.inr w3)
  else
    (fX10_exchanges w3 l2 (((w3.1 42 6) - 1) - l2)).bind fun (w5 : Wd) =>
    lt_ (l2 + 1) fun (v6 : Int32) =>
    some (.inl (v6, w5))
def fX10_turned (w : Wd) : Option (Int32 × Wd) :=
  (fX10_passesAll w 1 1).bind fun (w1 : Wd) =>
  (iter (fun s : Int32 × Wd => fX10_turned_b8 s.1 s.2) FU (0, w1)).bind fun (w8 : Wd) =>
  (fX10_atDoor w8).bind fun q11 => un2 q11 fun (r10 : Int32) (w9 : Wd) =>
  (fX10_bits r10).bind fun (r12 : Int32) =>
  (fX10_passesAll w9 1 0).bind fun (w13 : Wd) =>
  some (r12, w13)
def fX10_goesCounting_b12 (l3 : Int32) (w4 : Wd) : Option ((Int32 × Wd) ⊕ (Wd)) :=
  if (8 : Int32) ≤ l3 then
    some (.inr w4)
  else
    gd_ (ib l3 8) <|
    lt_ (upI w4 55 (l3.toNatClampNeg) l3) fun (w6 : Wd) =>
    lt_ (l3 + 1) fun (v8 : Int32) =>
    some (.inl (v8, w6))
def fX10_goesCounting_b31 (a1 : Int32) (w11 : Wd) : Option ((Wd) ⊕ (Wd)) :=
  if (fX10_doorAt w11) ≤ (w11.1 42 8) then
    some (.inr w11)
  else
    (if (fX10_has (w11.1 42 7) a1) = 0 then
      some (0 : Int32)
    else
      (fX10_holds w11 a1).bind fun (r15 : Int32) =>
      if r15 = 0 then
        some (1 : Int32)
      else
        some (0 : Int32) : Option Int32).bind fun (v14 : Int32) =>
    lt_ (upI w11 42 37 ((w11.1 42 37) + v14)) fun (w16 : Wd) =>
    (fX10_goes w16 0).bind fun (w17 : Wd) =>
    some (.inl w17)
def fX10_goesCounting (w : Wd) (a1 : Int32) : Option (Wd) :=
  lt_ (upI w 42 37 0) fun (w1 : Wd) =>
  lt_ (upI w1 42 23 0) fun (w2 : Wd) =>
  (iter (fun s : Int32 × Wd => fX10_goesCounting_b12 s.1 s.2) FU (0, w2)).bind fun (w10 : Wd) =>
  (iter (fun s : Wd => fX10_goesCounting_b31 a1 s) FU w10).bind fun (w19 : Wd) =>
  some w19
def fX10_flame (w : Wd) (a1 : Int32) : Option (Int32 × Wd) :=
  if (fX10_isPerson w a1) = 0 then
    (fX10_no w (-1)).bind fun q3 => un2 q3 fun (r2 : Int32) (w1 : Wd) =>
    some (r2, w1)
  else
    (fX10_passesAll w 1 1).bind fun (w4 : Wd) =>
    (fX10_goesCounting w4 a1).bind fun (w5 : Wd) =>
    (if (fX10_has (w5.1 42 7) a1) = 0 then
      some ((-9) : Int32)
    else
      gd_ (ib a1 8) <|
      some (w5.1 55 a1.toNatClampNeg) : Option Int32).bind fun (v7 : Int32) =>
    (fX10_passesAll w5 1 0).bind fun (w9 : Wd) =>
    some (v7, w9)
def fX10_out (w : Wd) (a1 : Int32) : Option (Int32 × Wd) :=
  if (fX10_isPerson w a1) = 0 then
    (fX10_no w (-1)).bind fun q3 => un2 q3 fun (r2 : Int32) (w1 : Wd) =>
    some (r2, w1)
  else
    (fX10_passesAll w 1 1).bind fun (w4 : Wd) =>
    (fX10_goesCounting w4 a1).bind fun (w5 : Wd) =>
    (fX10_passesAll w5 1 0).bind fun (w6 : Wd) =>
    some (w6.1 42 37, w6)
def fX10_again (w : Wd) : Option (Int32 × Wd) :=
  (fX10_passesAll w 1 1).bind fun (w1 : Wd) =>
  (fX10_goesCounting w1 0).bind fun (w2 : Wd) =>
  (fX10_passesAll w2 1 0).bind fun (w3 : Wd) =>
  some (w3.1 42 23, w3)
def fX10_findGame_b25 (l2 : Int32) (l6 : Int32) (w7 : Wd) : Option ((Int32 × Wd) ⊕ (Wd)) :=
  if (25 : Int32) ≤ l6 then
    some (.inr w7)
  else
    gd_ (ib l6 25) <|
    lt_ (upI w7 48 (l6.toNatClampNeg) (jrem l2 3)) fun (w9 : Wd) =>
    lt_ (l6 + 1) fun (v11 : Int32) =>
    some (.inl (v11, w9))
def fX10_findGame_b8 (l2 : Int32) (w3 : Wd) : Option ((Int32 × Wd) ⊕ (Wd)) :=
  if (9 : Int32) ≤ l2 then
    some (.inr w3)
  else
    lt_ (upI w3 44 0 (l2 / 3)) fun (w5 : Wd) =>
    (iter (fun s : Int32 × Wd => fX10_findGame_b25 l2 s.1 s.2) FU (0, w5)).bind fun (w13 : Wd) =>
    (fX10_atDoor w13).bind fun q16 => un2 q16 fun (r15 : Int32) (w14 : Wd) =>
    (fX10_bits r15).bind fun (r17 : Int32) =>
    gd_ (ib l2 9) <|
    lt_ (upI w14 65 (l2.toNatClampNeg) r17) fun (w18 : Wd) =>
    lt_ (l2 + 1) fun (v20 : Int32) =>
    some (.inl (v20, w18))
def fX10_findGame (w : Wd) : Option (Wd) :=
  (fX10_passesAll w 1 1).bind fun (w1 : Wd) =>
  (iter (fun s : Int32 × Wd => fX10_findGame_b8 s.1 s.2) FU (0, w1)).bind fun (w22 : Wd) =>
  (fX10_passesAll w22 1 0).bind fun (w23 : Wd) =>
  some w23
def fX10_sureBy_b17 (a1 : Int32) (l2 : Int32) (w : Wd) (l4 : Int32) (l5 : Int32) : Option ((Int32 × Int32) ⊕ (Int32)) :=
  if (3 : Int32) ≤ l5 then
    some (.inr l4)
  else
    lt_ (if a1 = 0 then
      (3 * l5) + l2
    else
      (3 * l2) + l5 : Int32) fun (v7 : Int32) =>
    gd_ (ib v7 9) <|
    lt_ (w.1 65 v7.toNatClampNeg) fun (v9 : Int32) =>
    lt_ (if l4 < 0 then
      v9
    else
      if a1 = 0 then
        if v9 ≤ l4 then
          l4
        else
          v9
      else
        if l4 ≤ v9 then
          l4
        else
          v9 : Int32) fun (v10 : Int32) =>
    lt_ (l5 + 1) fun (v11 : Int32) =>
    some (.inl (v10, v11))
def fX10_sureBy_b5 (a1 : Int32) (w : Wd) (l1 : Int32) (l2 : Int32) : Option ((Int32 × Int32) ⊕ (Int32)) :=
  if (3 : Int32) ≤ l2 then
    some (.inr l1)
  else
    (iter (fun s : Int32 × Int32 => fX10_sureBy_b17 a1 l2 w s.1 s.2) FU ((-9), 0)).bind fun (l13 : Int32) =>
    lt_ (if l1 < 0 then
      l13
    else
      if a1 = 0 then
        if l1 ≤ l13 then
          l1
        else
          l13
      else
        if l13 ≤ l1 then
          l1
        else
          l13 : Int32) fun (v14 : Int32) =>
    lt_ (l2 + 1) fun (v15 : Int32) =>
    some (.inl (v14, v15))
def fX10_sureBy (w : Wd) (a1 : Int32) : Option (Int32) :=
  (iter (fun s : Int32 × Int32 => fX10_sureBy_b5 a1 w s.1 s.2) FU ((-9), 0)).bind fun (l17 : Int32) =>
  some l17
def fX10_rests_b2 (a1 : Int32) (w : Wd) (l1 : Int32) : Option ((Int32) ⊕ (Int32)) :=
  if (3 : Int32) ≤ l1 then
    some (.inr (1 : Int32))
  else
    gd_ (ib ((3 * l1) + (jrem a1 3)) 9) <|
    gd_ (ib a1 9) <|
    if (w.1 65 a1.toNatClampNeg) < (w.1 65 ((3 * l1) + (jrem a1 3)).toNatClampNeg) then
      some (.inr (0 : Int32))
    else
      gd_ (ib (((a1 / 3) * 3) + l1) 9) <|
      if (w.1 65 a1.toNatClampNeg) ≤ (w.1 65 (((a1 / 3) * 3) + l1).toNatClampNeg) then
        lt_ (l1 + 1) fun (v5 : Int32) =>
        some (.inl v5)
      else
        some (.inr (0 : Int32))
def fX10_rests (w : Wd) (a1 : Int32) : Option (Int32) :=
  iter (fun s : Int32 => fX10_rests_b2 a1 w s) FU (0 : Int32)
def fX10_game_b41 (w4 : Wd) (l5 : Int32) : Option ((Int32) ⊕ (Int32 × Wd)) :=
  if (9 : Int32) ≤ l5 then
    some (.inr ((-9), w4))
  else
    (fX10_rests w4 l5).bind fun (r6 : Int32) =>
    if r6 = 0 then
      lt_ (l5 + 1) fun (v7 : Int32) =>
      some (.inl v7)
    else
      some (.inr ((10 * (l5 / 3)) + (jrem l5 3), w4))
def fX10_game_j35 (w9 : Wd) (l8 : Int32) : Option (Int32 × Wd) :=
  (fX10_sureBy w9 l8).bind fun (r10 : Int32) =>
  some (r10, w9)
def fX10_game (w : Wd) (a1 : Int32) : Option (Int32 × Wd) :=
  if (fX10_isIn a1 0 2) = 0 then
    (fX10_no w (-2)).bind fun q3 => un2 q3 fun (r2 : Int32) (w1 : Wd) =>
    some (r2, w1)
  else
    (fX10_findGame w).bind fun (w4 : Wd) =>
    if a1 ≤ 0 then
      iter (fun s : Int32 => fX10_game_b41 w4 s) FU (0 : Int32)
    else
      if a1 = 1 then
        fX10_game_j35 w4 1
      else
        fX10_game_j35 w4 0
def fX10_heirs_b18 (a1 : Int32) (l4 : Int32) (l5 : Int32) (w6 : Wd) : Option ((Int32 × Int32 × Wd) ⊕ (Int32 × Wd)) :=
  if (6 : Int32) < l5 then
    some (.inr (l4, w6))
  else
    (fX10_passesAll w6 1 1).bind fun (w8 : Wd) =>
    (fX10_becomes w8 a1 l5).bind fun (w9 : Wd) =>
    (fX10_atDoor w9).bind fun q12 => un2 q12 fun (r11 : Int32) (w10 : Wd) =>
    lt_ (if (fX10_has r11 a1) = 0 then
      (0 : Int32)
    else
      (1 : Int32) <<< (l5 &&& 31) : Int32) fun (v13 : Int32) =>
    lt_ (l4 ||| v13) fun (v14 : Int32) =>
    (fX10_passesAll w10 1 0).bind fun (w15 : Wd) =>
    lt_ (l5 + 1) fun (v16 : Int32) =>
    some (.inl (v14, v16, w15))
def fX10_heirs (w : Wd) (a1 : Int32) : Option (Int32 × Wd) :=
  if (fX10_isPerson w a1) = 0 then
    (fX10_no w (-1)).bind fun q3 => un2 q3 fun (r2 : Int32) (w1 : Wd) =>
    some (r2, w1)
  else
    (iter (fun s : Int32 × Int32 × Wd => fX10_heirs_b18 a1 s.1 s.2.1 s.2.2) FU (0, 0, w)).bind fun x17 => un2 x17 fun (l18 : Int32) (w19 : Wd) =>
    some (l18, w19)
def fX10_longestDark_b6 (w : Wd) (l1 : Int32) (l2 : Int32) (l3 : Int32) : Option ((Int32 × Int32 × Int32) ⊕ (Int32)) :=
  if (w.1 42 6) ≤ l3 then
    some (.inr l2)
  else
    lt_ (if (fX10_has (w.1 42 7) l3) = 0 then
      l1 + 1
    else
      (0 : Int32) : Int32) fun (v5 : Int32) =>
    lt_ (if v5 ≤ l2 then
      l2
    else
      v5 : Int32) fun (v6 : Int32) =>
    lt_ (l3 + 1) fun (v7 : Int32) =>
    some (.inl (v5, v6, v7))
def fX10_longestDark (w : Wd) : Option (Int32) :=
  (iter (fun s : Int32 × Int32 × Int32 => fX10_longestDark_b6 w s.1 s.2.1 s.2.2) FU (0, 0, 0)).bind fun (l9 : Int32) =>
  some l9
def fX10_gaps_b30 (l5 : Int32) (l6 : Int32) (l7 : Int32) (w8 : Wd) : Option ((Int32 × Int32 × Int32 × Wd) ⊕ (Int32 × Int32 × Wd)) :=
  if (fX10_doorAt w8) ≤ (w8.1 42 8) then
    some (.inr (l5, l6, w8))
  else
    (fX10_goes w8 0).bind fun (w10 : Wd) =>
    (fX10_longestDark w10).bind fun (r11 : Int32) =>
    lt_ (if r11 ≤ l5 then
      l6
    else
      l7 : Int32) fun (v12 : Int32) =>
    lt_ (if r11 ≤ l5 then
      l5
    else
      r11 : Int32) fun (v13 : Int32) =>
    lt_ (l7 + 1) fun (v14 : Int32) =>
    some (.inl (v13, v12, v14, w10))
def fX10_gaps (w : Wd) (a1 : Int32) : Option (Int32 × Wd) :=
  if (fX10_isIn a1 0 1) = 0 then
    (fX10_no w (-2)).bind fun q3 => un2 q3 fun (r2 : Int32) (w1 : Wd) =>
    some (r2, w1)
  else
    (fX10_passesAll w 1 1).bind fun (w4 : Wd) =>
    (iter (fun s : Int32 × Int32 × Int32 × Wd => fX10_gaps_b30 s.1 s.2.1 s.2.2.1 s.2.2.2) FU (0, (-9), 1, w4)).bind fun x15 => un3 x15 fun (l16 : Int32) (l17 : Int32) (w18 : Wd) =>
    (fX10_passesAll w18 1 0).bind fun (w19 : Wd) =>
    if a1 = 0 then
      some (l16, w19)
    else
      some (l17, w19)
def fX10_lightsOne_b2 (w : Wd) (l1 : Int32) : Option ((Int32) ⊕ (Wd)) :=
  if (w.1 42 6) ≤ l1 then
    some (.inr w)
  else
    gd_ (ib l1 8) <|
    if (w.1 45 l1.toNatClampNeg) = 6 then
      lt_ (l1 + 1) fun (v3 : Int32) =>
      some (.inl v3)
    else
      if (fX10_has (w.1 42 7) l1) = 0 then
        lt_ (upI w 42 7 ((w.1 42 7) ||| ((1 : Int32) <<< (l1 &&& 31)))) fun (w4 : Wd) =>
        some (.inr w4)
      else
        lt_ (l1 + 1) fun (v5 : Int32) =>
        some (.inl v5)
def fX10_lightsOne (w : Wd) : Option (Wd) :=
  iter (fun s : Int32 => fX10_lightsOne_b2 w s) FU (0 : Int32)
def fX10_doesLight_b21 (a1 : Int32) (l2 : Int32) (l5 : Int32) (w6 : Wd) : Option ((Int32 × Wd) ⊕ (Wd)) :=
  if a1 ≤ l5 then
    some (.inr w6)
  else
    gd_ (ib l5 3) <|
    if (w6.1 66 l5.toNatClampNeg) = l2 then
      (fX10_lightsOne w6).bind fun (w9 : Wd) =>
      lt_ (l5 + 1) fun (v10 : Int32) =>
      some (.inl (v10, w9))
    else
      lt_ (l5 + 1) fun (v11 : Int32) =>
      some (.inl (v11, w6))
def fX10_doesLight_b8 (a1 : Int32) (l2 : Int32) (w3 : Wd) : Option ((Int32 × Wd) ⊕ (Wd)) :=
  if (fX10_doorAt w3) ≤ (w3.1 42 8) then
    some (.inr w3)
  else
    (iter (fun s : Int32 × Wd => fX10_doesLight_b21 a1 l2 s.1 s.2) FU (0, w3)).bind fun (w13 : Wd) =>
    (fX10_goes w13 0).bind fun (w14 : Wd) =>
    lt_ (l2 + 1) fun (v15 : Int32) =>
    some (.inl (v15, w14))
def fX10_doesLight (w : Wd) (a1 : Int32) : Option (Int32 × Wd) :=
  (fX10_passesAll w 1 1).bind fun (w1 : Wd) =>
  (iter (fun s : Int32 × Wd => fX10_doesLight_b8 a1 s.1 s.2) FU (0, w1)).bind fun (w17 : Wd) =>
  lt_ (if (w17.1 42 7) = 0 then
    (0 : Int32)
  else
    (1 : Int32) : Int32) fun (v18 : Int32) =>
  (fX10_passesAll w17 1 0).bind fun (w19 : Wd) =>
  gd_ (bz v18) <|
  some (v18, w19)
def fX10_findMatches_b15 (a1 : Int32) (v1 : Int32) (l2 : Int32) (l3 : Int32) : Option ((Int32 × Int32) ⊕ (Int32)) :=
  if a1 ≤ l3 then
    some (.inr l2)
  else
    lt_ (l2 * v1) fun (v5 : Int32) =>
    lt_ (l3 + 1) fun (v6 : Int32) =>
    some (.inl (v5, v6))
def fX10_findMatches_b52 (v1 : Int32) (a1 : Int32) (l12 : Int32) (l13 : Int32) (l14 : Int32) (w15 : Wd) : Option ((Int32 × Int32 × Int32 × Wd) ⊕ (Int32 × Wd)) :=
  if l14 < 0 then
    some (.inr (l13, w15))
  else
    gd_ (!(v1 == 0)) <|
    gd_ (ib l14 3) <|
    lt_ (upI w15 66 (l14.toNatClampNeg) (jrem l12 v1)) fun (w18 : Wd) =>
    lt_ (l12 / v1) fun (v20 : Int32) =>
    (if l14 = (a1 - 1) then
      some (1 : Int32)
    else
      gd_ (ib (l14 + 1) 3) <|
      if (w18.1 66 (l14 + 1).toNatClampNeg) ≤ (w18.1 66 l14.toNatClampNeg) then
        some (0 : Int32)
      else
        some (1 : Int32) : Option Int32).bind fun (v22 : Int32) =>
    lt_ (l13 &&& v22) fun (v24 : Int32) =>
    lt_ (l14 + (-1)) fun (v25 : Int32) =>
    some (.inl (v20, v24, v25, w18))
def fX10_findMatches_b34 (l8 : Int32) (a1 : Int32) (v1 : Int32) (l9 : Int32) (w10 : Wd) : Option ((Int32 × Wd) ⊕ (Int32 × Wd)) :=
  if l8 ≤ l9 then
    some (.inr (0, w10))
  else
    lt_ (a1 - 1) fun (v11 : Int32) =>
    (iter (fun s : Int32 × Int32 × Int32 × Wd => fX10_findMatches_b52 v1 a1 s.1 s.2.1 s.2.2.1 s.2.2.2) FU (l9, 1, v11, w10)).bind fun x26 => un2 x26 fun (l27 : Int32) (w28 : Wd) =>
    if l27 = 0 then
      lt_ (l9 + 1) fun (v29 : Int32) =>
      some (.inl (v29, w28))
    else
      (fX10_doesLight w28 a1).bind fun q32 => un2 q32 fun (r31 : Int32) (w30 : Wd) =>
      if r31 = 0 then
        lt_ (l9 + 1) fun (v33 : Int32) =>
        some (.inl (v33, w30))
      else
        some (.inr (1, w30))
def fX10_findMatches (w : Wd) (a1 : Int32) : Option (Int32 × Wd) :=
  lt_ ((fX10_doorAt w) - (w.1 42 8)) fun (v1 : Int32) =>
  (iter (fun s : Int32 × Int32 => fX10_findMatches_b15 a1 v1 s.1 s.2) FU (1, 0)).bind fun (l8 : Int32) =>
  iter (fun s : Int32 × Wd => fX10_findMatches_b34 l8 a1 v1 s.1 s.2) FU (0, w)
def fX10_matches_b14 (a1 : Int32) (l1 : Int32) (w2 : Wd) : Option ((Int32 × Wd) ⊕ (Int32 × Wd)) :=
  if (4 : Int32) ≤ l1 then
    some (.inr ((-9), w2))
  else
    (fX10_findMatches w2 l1).bind fun q5 => un2 q5 fun (r4 : Int32) (w3 : Wd) =>
    if r4 = 0 then
      lt_ (l1 + 1) fun (v6 : Int32) =>
      some (.inl (v6, w3))
    else
      if (0 : Int32) ≤ a1 then
        if l1 ≤ a1 then
          some (.inr ((-9), w3))
        else
          gd_ (ib a1 3) <|
          some (.inr (w3.1 66 a1.toNatClampNeg, w3))
      else
        some (.inr (l1, w3))
def fX10_matches (w : Wd) (a1 : Int32) : Option (Int32 × Wd) :=
  if ((-1) : Int32) ≤ a1 then
    iter (fun s : Int32 × Wd => fX10_matches_b14 a1 s.1 s.2) FU (0, w)
  else
    (fX10_no w (-4)).bind fun q10 => un2 q10 fun (r9 : Int32) (w8 : Wd) =>
    some (r9, w8)
def fX10_isWax_b15 (l3 : Int32) (l4 : Int32) (w5 : Wd) : Option ((Int32 × Int32 × Wd) ⊕ (Int32 × Wd)) :=
  if (w5.1 42 6) ≤ l4 then
    some (.inr (l3, w5))
  else
    if l3 = 0 then
      some (.inr (l3, w5))
    else
      (fX10_darkEnds w5 l4).bind fun q10 => un2 q10 fun (r9 : Int32) (w8 : Wd) =>
      gd_ (ib l4 12) <|
      lt_ (if r9 = (w8.1 67 l4.toNatClampNeg) then
        (1 : Int32)
      else
        (0 : Int32) : Int32) fun (v12 : Int32) =>
      lt_ (l4 + 1) fun (v13 : Int32) =>
      some (.inl (v12, v13, w8))
def fX10_isWax_j53 (w18 : Wd) (l17 : Int32) : Option (Int32 × Wd) :=
  (fX10_passesAll w18 1 0).bind fun (w19 : Wd) =>
  gd_ (bz l17) <|
  some (l17, w19)
def fX10_isWax (w : Wd) (a1 : Int32) : Option (Int32 × Wd) :=
  (fX10_passesAll w 1 1).bind fun (w1 : Wd) =>
  lt_ (upI w1 42 7 a1) fun (w2 : Wd) =>
  (iter (fun s : Int32 × Int32 × Wd => fX10_isWax_b15 s.1 s.2.1 s.2.2) FU (1, 0, w2)).bind fun x14 => un2 x14 fun (l15 : Int32) (w16 : Wd) =>
  fX10_isWax_j53 w16 l15
def fX10_wax_b47 (w : Wd) (l2 : Int32) (l3 : Int32) : Option ((Int32 × Int32) ⊕ (Int32)) :=
  if (w.1 42 6) ≤ l3 then
    some (.inr l2)
  else
    gd_ (ib l3 8) <|
    lt_ (if (w.1 45 l3.toNatClampNeg) = 6 then
      (1 : Int32) <<< (l3 &&& 31)
    else
      (0 : Int32) : Int32) fun (v6 : Int32) =>
    lt_ (l2 ||| v6) fun (v7 : Int32) =>
    lt_ (l3 + 1) fun (v8 : Int32) =>
    some (.inl (v7, v8))
def fX10_wax_b95 (l10 : Int32) (l11 : Int32) (l12 : Int32) (l13 : Int32) (w14 : Wd) : Option ((Int32 × Int32 × Int32 × Wd) ⊕ (Int32 × Int32 × Wd)) :=
  if (1 : Int32) <<< ((w14.1 42 6) &&& 31) ≤ l13 then
    some (.inr (l11, l12, w14))
  else
    if (l13 &&& l10) = 0 then
      (fX10_isWax w14 l13).bind fun q18 => un2 q18 fun (r17 : Int32) (w16 : Wd) =>
      if r17 = 0 then
        lt_ (l13 + 1) fun (v19 : Int32) =>
        some (.inl (l11, l12, v19, w16))
      else
        lt_ (if l11 = 0 then
          l13
        else
          l12 : Int32) fun (v20 : Int32) =>
        lt_ (l11 + 1) fun (v21 : Int32) =>
        lt_ (l13 + 1) fun (v22 : Int32) =>
        some (.inl (v21, v20, v22, w16))
    else
      lt_ (l13 + 1) fun (v23 : Int32) =>
      some (.inl (l11, l12, v23, w14))
def fX10_wax (w : Wd) (a1 : Int32) : Option (Int32 × Wd) :=
  lt_ (if (fX10_isIn a1 0 1) = 0 then
    ((-2) : Int32)
  else
    if (w.1 42 41) = (w.1 42 6) then
      (0 : Int32)
    else
      ((-3) : Int32) : Int32) fun (v1 : Int32) =>
  if v1 = 0 then
    (iter (fun s : Int32 × Int32 => fX10_wax_b47 w s.1 s.2) FU (0, 0)).bind fun (l10 : Int32) =>
    (iter (fun s : Int32 × Int32 × Int32 × Wd => fX10_wax_b95 l10 s.1 s.2.1 s.2.2.1 s.2.2.2) FU (0, (-9), 0, w)).bind fun x24 => un3 x24 fun (l25 : Int32) (l26 : Int32) (w27 : Wd) =>
    if a1 = 0 then
      some (l25, w27)
    else
      some (l26, w27)
  else
    (fX10_no w v1).bind fun q30 => un2 q30 fun (r29 : Int32) (w28 : Wd) =>
    some (r29, w28)
def fX10_sides_b21 (l4 : Int32) (l7 : Int32) (w8 : Wd) : Option ((Int32 × Wd) ⊕ (Wd)) :=
  if (25 : Int32) ≤ l7 then
    some (.inr w8)
  else
    gd_ (ib l7 25) <|
    lt_ (upI w8 48 (l7.toNatClampNeg) l4) fun (w10 : Wd) =>
    lt_ (l7 + 1) fun (v12 : Int32) =>
    some (.inl (v12, w10))
def fX10_sides_b13 (l2 : Int32) (l3 : Int32) (l4 : Int32) (w5 : Wd) : Option ((Int32 × Int32 × Int32 × Wd) ⊕ (Int32 × Wd)) :=
  if (3 : Int32) ≤ l4 then
    some (.inr (l2, w5))
  else
    (iter (fun s : Int32 × Wd => fX10_sides_b21 l4 s.1 s.2) FU (0, w5)).bind fun (w14 : Wd) =>
    (fX10_atDoor w14).bind fun q17 => un2 q17 fun (r16 : Int32) (w15 : Wd) =>
    (fX10_bits r16).bind fun (r18 : Int32) =>
    if l3 < r18 then
      lt_ (l4 + 1) fun (v19 : Int32) =>
      some (.inl (l4, r18, v19, w15))
    else
      lt_ (l4 + 1) fun (v20 : Int32) =>
      some (.inl (l2, l3, v20, w15))
def fX10_sides (w : Wd) : Option (Int32 × Wd) :=
  (fX10_passesAll w 1 1).bind fun (w1 : Wd) =>
  (iter (fun s : Int32 × Int32 × Int32 × Wd => fX10_sides_b13 s.1 s.2.1 s.2.2.1 s.2.2.2) FU (0, (-9), 0, w1)).bind fun x21 => un2 x21 fun (l22 : Int32) (w23 : Wd) =>
  (fX10_passesAll w23 1 0).bind fun (w24 : Wd) =>
  some (l22, w24)
def fX10_row_j24 (a1 : Int32) (w3 : Wd) (l2 : Int32) : Option (Int32 × Wd) :=
  if l2 = 0 then
    gd_ (ib (w3.1 42 41) 12) <|
    lt_ (upI w3 67 ((w3.1 42 41).toNatClampNeg) a1) fun (w4 : Wd) =>
    lt_ (upI w4 42 41 ((w4.1 42 41) + 1)) fun (w6 : Wd) =>
    some (w6.1 42 41, w6)
  else
    (fX10_no w3 l2).bind fun q9 => un2 q9 fun (r8 : Int32) (w7 : Wd) =>
    some (r8, w7)
def fX10_row (w : Wd) (a1 : Int32) : Option (Int32 × Wd) :=
  lt_ (fX10_bound a1 0 99) fun (v1 : Int32) =>
  if v1 = 0 then
    if (w.1 42 41) = 12 then
      fX10_row_j24 a1 w (-6)
    else
      fX10_row_j24 a1 w v1
  else
    fX10_row_j24 a1 w v1
def fX10_judge_j58 (w12 : Wd) (l10 : Int32) (l11 : Int32) : Option ((Int32 × Int32 × Wd) ⊕ (Int32 × Wd)) :=
  (if l11 = 0 then
    some l10
  else
    (fX10_bits (w12.1 42 7)).bind fun (r15 : Int32) =>
    gd_ (ib l10 12) <|
    if r15 = (w12.1 67 l10.toNatClampNeg) then
      some ((-9) : Int32)
    else
      some l10 : Option Int32).bind fun (v14 : Int32) =>
  lt_ (l10 + 1) fun (v17 : Int32) =>
  some (.inl (v14, v17, w12))
def fX10_judge_b21 (v1 : Int32) (l4 : Int32) (l5 : Int32) (w6 : Wd) : Option ((Int32 × Int32 × Wd) ⊕ (Int32 × Wd)) :=
  if v1 ≤ l5 then
    some (.inr (l4, w6))
  else
    if (0 : Int32) ≤ l4 then
      some (.inr (l4, w6))
    else
      lt_ (if (fX10_doorAt w6) ≤ (w6.1 42 8) then
        (0 : Int32)
      else
        (1 : Int32) : Int32) fun (v9 : Int32) =>
      if v9 = 0 then
        fX10_judge_j58 w6 l5 v9
      else
        (fX10_goes w6 0).bind fun (w18 : Wd) =>
        fX10_judge_j58 w18 l5 v9
def fX10_judge_j92 (w23 : Wd) (l22 : Int32) : Option (Int32 × Wd) :=
  (fX10_passesAll w23 1 0).bind fun (w24 : Wd) =>
  some (l22, w24)
def fX10_judge (w : Wd) : Option (Int32 × Wd) :=
  lt_ (w.1 42 41) fun (v1 : Int32) =>
  lt_ (upI w 42 41 0) fun (w2 : Wd) =>
  (fX10_passesAll w2 1 1).bind fun (w3 : Wd) =>
  (iter (fun s : Int32 × Int32 × Wd => fX10_judge_b21 v1 s.1 s.2.1 s.2.2) FU ((-9), 0, w3)).bind fun x19 => un2 x19 fun (l20 : Int32) (w21 : Wd) =>
  fX10_judge_j92 w21 l20
def fX10_clear (w : Wd) : Int32 × Wd :=
  lt_ (w.1 42 41) fun (v1 : Int32) =>
  lt_ (upI w 42 41 0) fun (w2 : Wd) =>
  (v1, w2)
def fX10_draw (w : Wd) (a1 : Int32) : Option (Int32 × Wd) :=
  lt_ (upI w 42 42 (((w.1 42 42) * 1103515245) + 12345)) fun (w1 : Wd) =>
  gd_ (!(a1 == 0)) <|
  some (jrem (((w1.1 42 42) &&& 2147483647) / 65536) a1, w1)
def fX10_seeds_b71 (l12 : Int32) (w13 : Wd) : Option ((Int32 × Wd) ⊕ (Wd)) :=
  if (25 : Int32) ≤ l12 then
    some (.inr w13)
  else
    (fX10_draw w13 10).bind fun q17 => un2 q17 fun (r16 : Int32) (w15 : Wd) =>
    gd_ (ib l12 25) <|
    lt_ (upI w15 47 (l12.toNatClampNeg) r16) fun (w18 : Wd) =>
    (fX10_draw w18 3).bind fun q22 => un2 q22 fun (r21 : Int32) (w20 : Wd) =>
    lt_ (upI w20 48 (l12.toNatClampNeg) r21) fun (w23 : Wd) =>
    lt_ (l12 + 1) fun (v24 : Int32) =>
    some (.inl (v24, w23))
def fX10_seeds_b59 (a1 : Int32) (l6 : Int32) (l7 : Int32) (l8 : Int32) (w9 : Wd) : Option ((Int32 × Int32 × Int32 × Wd) ⊕ (Int32 × Int32 × Wd)) :=
  if a1 ≤ l8 then
    some (.inr (l6, l7, w9))
  else
    lt_ (w9.1 42 8) fun (v11 : Int32) =>
    (iter (fun s : Int32 × Wd => fX10_seeds_b71 s.1 s.2) FU (v11, w9)).bind fun (w26 : Wd) =>
    (fX10_atDoor w26).bind fun q29 => un2 q29 fun (r28 : Int32) (w27 : Wd) =>
    (fX10_bits r28).bind fun (r30 : Int32) =>
    lt_ (l6 + r30) fun (v31 : Int32) =>
    lt_ (if r30 = 0 then
      (1 : Int32)
    else
      (0 : Int32) : Int32) fun (v32 : Int32) =>
    lt_ (l7 + v32) fun (v33 : Int32) =>
    lt_ (l8 + 1) fun (v34 : Int32) =>
    some (.inl (v31, v33, v34, w27))
def fX10_seeds_j27 (a2 : Int32) (a1 : Int32) (a3 : Int32) (w3 : Wd) (l2 : Int32) : Option (Int32 × Wd) :=
  if l2 = 0 then
    (fX10_passesAll w3 1 1).bind fun (w4 : Wd) =>
    lt_ (upI w4 42 42 a2) fun (w5 : Wd) =>
    (iter (fun s : Int32 × Int32 × Int32 × Wd => fX10_seeds_b59 a1 s.1 s.2.1 s.2.2.1 s.2.2.2) FU (0, 0, 0, w5)).bind fun x35 => un3 x35 fun (l36 : Int32) (l37 : Int32) (w38 : Wd) =>
    (fX10_passesAll w38 1 0).bind fun (w39 : Wd) =>
    if a3 = 0 then
      some (l36, w39)
    else
      some (l37, w39)
  else
    (fX10_no w3 l2).bind fun q42 => un2 q42 fun (r41 : Int32) (w40 : Wd) =>
    some (r41, w40)
def fX10_seeds (w : Wd) (a1 : Int32) (a2 : Int32) (a3 : Int32) : Option (Int32 × Wd) :=
  lt_ (fX10_bound a1 1 20) fun (v1 : Int32) =>
  if v1 = 0 then
    if (fX10_isIn a3 0 1) = 0 then
      fX10_seeds_j27 a2 a1 a3 w (-2)
    else
      fX10_seeds_j27 a2 a1 a3 w v1
  else
    fX10_seeds_j27 a2 a1 a3 w v1
def fX10_count (w : Wd) (a1 : Int32) : Option (Int32) :=
  if (fX10_isIn a1 11 16) = 0 then
    if a1 = 0 then
      some (w.1 42 6)
    else if a1 = 1 then
      (fX10_bits (w.1 42 7)).bind fun (r3 : Int32) =>
      some r3
    else if a1 = 2 then
      some (w.1 42 8)
    else if a1 = 3 then
      some (w.1 42 9)
    else if a1 = 4 then
      gd_ (ib (a1 - 4) 3) <|
      some (w.1 44 (a1 - 4).toNatClampNeg)
    else if a1 = 5 then
      gd_ (ib (a1 - 4) 3) <|
      some (w.1 44 (a1 - 4).toNatClampNeg)
    else if a1 = 6 then
      gd_ (ib (a1 - 4) 3) <|
      some (w.1 44 (a1 - 4).toNatClampNeg)
    else if a1 = 7 then
      some (w.1 42 14)
    else if a1 = 8 then
      some (w.1 42 41)
    else if a1 = 9 then
      (fX10_lightOf w (w.1 42 7)).bind fun (r15 : Int32) =>
      some r15
    else if a1 = 10 then
      some (w.1 42 27)
    else 
      some ((-9) : Int32)
  else
    gd_ (ib (a1 - 10) 7) <|
    some (w.1 43 (a1 - 10).toNatClampNeg)
