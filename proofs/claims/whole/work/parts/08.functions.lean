/-! functions out of the bytecode, by program (wip/whole/tools/gen.py): what each method computes; none: an index outside its row, a divisor 0, or no end -/
def fX9_refuse (w : Wd) (a1 : Int32) : Option (Int32 × Wd) :=
  lt_ (-a1) fun (v1 : Int32) =>
  if v1 ≤ 0 then
    some (a1, w)
  else
    if (7 : Int32) ≤ v1 then
      some (a1, w)
    else
      gd_ (ib v1 7) <|
      lt_ (upI w 12 (v1.toNatClampNeg) ((w.1 12 v1.toNatClampNeg) + 1)) fun (w3 : Wd) =>
      some (a1, w3)
def fX3_isFull (w : Wd) : Int32 :=
  if (w.1 6 0) < 96 then
    (0 : Int32)
  else
    (1 : Int32)
def fX3_append (w : Wd) (a1 : Int32) : Option (Int32 × Wd) :=
  if (fX3_isFull w) = 0 then
    gd_ (ib (w.1 6 0) 96) <|
    lt_ (upI w 33 ((w.1 6 0).toNatClampNeg) a1) fun (w1 : Wd) =>
    lt_ (upI w1 6 0 ((w1.1 6 0) + 1)) fun (w4 : Wd) =>
    some (w4.1 6 0, w4)
  else
    some (w.1 6 0, w)
def fX9_feed_j28 (w1 : Wd) : Option (Int32 × Wd) :=
  (fX9_refuse w1 (-6)).bind fun q4 => un2 q4 fun (r3 : Int32) (w2 : Wd) =>
  some (r3, w2)
def fX9_feed (w : Wd) (a1 : Int32) : Option (Int32 × Wd) :=
  if (0 : Int32) ≤ a1 then
    if (255 : Int32) < a1 then
      fX9_feed_j28 w
    else
      if (fX3_isFull w) = 0 then
        (fX3_append w a1).bind fun q8 => un2 q8 fun (r7 : Int32) (w6 : Wd) =>
        some (r7, w6)
      else
        fX9_feed_j28 w
  else
    (fX9_refuse w (-4)).bind fun q14 => un2 q14 fun (r13 : Int32) (w12 : Wd) =>
    some (r13, w12)
def fX3_digitsBehind (a0 : Int32) : Int32 :=
  if a0 = 100 then
    (2 : Int32)
  else if a0 = 102 then
    (2 : Int32)
  else if a0 = 108 then
    (1 : Int32)
  else if a0 = 109 then
    (1 : Int32)
  else if a0 = 112 then
    (3 : Int32)
  else if a0 = 119 then
    (4 : Int32)
  else 
    ((-1) : Int32)
def fX3_textFault_b4 (w : Wd) (l1 : Int32) (l2 : Int32) : Option ((Int32 × Int32) ⊕ (Int32)) :=
  if (w.1 6 0) ≤ l2 then
    if (w.1 6 0) ≤ 0 then
      some (.inr ((-1000) - (w.1 6 0)))
    else
      if l1 = (-1) then
        some (.inr (0 : Int32))
      else
        some (.inr ((-1000) - (w.1 6 0)))
  else
    gd_ (ib l2 96) <|
    lt_ (w.1 33 l2.toNatClampNeg) fun (v6 : Int32) =>
    if l1 = (-1) then
      lt_ (fX3_digitsBehind v6) fun (v7 : Int32) =>
      if (0 : Int32) ≤ v7 then
        lt_ (l2 + 1) fun (v8 : Int32) =>
        some (.inl (v7, v8))
      else
        some (.inr ((-1000) - l2))
    else
      if l1 ≤ 0 then
        if v6 = 59 then
          lt_ (l2 + 1) fun (v10 : Int32) =>
          some (.inl ((-1), v10))
        else
          some (.inr ((-1000) - l2))
      else
        if v6 < 48 then
          some (.inr ((-1000) - l2))
        else
          if v6 ≤ 57 then
            lt_ (l1 + (-1)) fun (v12 : Int32) =>
            lt_ (l2 + 1) fun (v13 : Int32) =>
            some (.inl (v12, v13))
          else
            some (.inr ((-1000) - l2))
def fX3_textFault (w : Wd) : Option (Int32) :=
  iter (fun s : Int32 × Int32 => fX3_textFault_b4 w s.1 s.2) FU ((-1), 0)
def fX2_takeFrom (b : Nat) (b1 : Nat) (w : Wd) : Wd :=
  lt_ (upI w b 0 (w.1 b1 0)) fun (w1 : Wd) =>
  lt_ (upI w1 b 1 (w1.1 b1 1)) fun (w3 : Wd) =>
  lt_ (upI w3 b 2 (w3.1 b1 2)) fun (w5 : Wd) =>
  lt_ (upI w5 b 3 (w5.1 b1 3)) fun (w7 : Wd) =>
  lt_ (upI w7 b 4 (w7.1 b1 4)) fun (w9 : Wd) =>
  lt_ (upI w9 b 5 (w9.1 b1 5)) fun (w11 : Wd) =>
  lt_ (upI w11 b 6 (w11.1 b1 6)) fun (w13 : Wd) =>
  lt_ (upA w13 (9 + 4 * b) (va_cpy (w13.1 (9 + 4 * b1)) (w13.1 (9 + 4 * b)) 0 0 8)) fun (w15 : Wd) =>
  lt_ (upA w15 (10 + 4 * b) (va_cpy (w15.1 (10 + 4 * b1)) (w15.1 (10 + 4 * b)) 0 0 8)) fun (w17 : Wd) =>
  lt_ (upA w17 (11 + 4 * b) (va_cpy (w17.1 (11 + 4 * b1)) (w17.1 (11 + 4 * b)) 0 0 25)) fun (w19 : Wd) =>
  lt_ (upA w19 (12 + 4 * b) (va_cpy (w19.1 (12 + 4 * b1)) (w19.1 (12 + 4 * b)) 0 0 25)) fun (w21 : Wd) =>
  w21
def fX3_digitAt (w : Wd) (a1 : Int32) : Option (Int32) :=
  if a1 < 0 then
    some (0 : Int32)
  else
    if (w.1 6 0) ≤ a1 then
      some (0 : Int32)
    else
      gd_ (ib a1 96) <|
      some ((w.1 33 a1.toNatClampNeg) - 48)
def fX2_putLit_j26 (b : Nat) (w2 : Wd) (l1 : Int32) : Wd :=
  lt_ (upI w2 b 1 l1) fun (w3 : Wd) =>
  w3
def fX2_putLit (b : Nat) (w : Wd) (a1 : Int32) (a2 : Int32) : Wd :=
  if a2 = 0 then
    fX2_putLit_j26 b w ((w.1 b 1) &&& (((1 : Int32) <<< (a1 &&& 31)) ^^^ (-1)))
  else
    fX2_putLit_j26 b w ((w.1 b 1) ||| ((1 : Int32) <<< (a1 &&& 31)))
def fX2_append (b : Nat) (w : Wd) (a1 : Int32) (a2 : Int32) (a3 : Int32) : Option (Wd) :=
  if (8 : Int32) ≤ (w.1 b 0) then
    some w
  else
    gd_ (ib (w.1 b 0) 8) <|
    lt_ (upI w (9 + 4 * b) ((w.1 b 0).toNatClampNeg) a1) fun (w1 : Wd) =>
    gd_ (ib (w1.1 b 0) 8) <|
    lt_ (upI w1 (10 + 4 * b) ((w1.1 b 0).toNatClampNeg) a2) fun (w4 : Wd) =>
    lt_ (upI w4 b 0 ((w4.1 b 0) + 1)) fun (w7 : Wd) =>
    lt_ (fX2_putLit b w7 ((w7.1 b 0) - 1) a3) fun (w9 : Wd) =>
    some w9
def fX3_personComes (w : Wd) (a1 : Int32) (a2 : Int32) (a3 : Int32) : Option (Int32 × Wd) :=
  lt_ (if a1 = 6 then
    if a3 = 1 then
      (1 : Int32)
    else
      (0 : Int32)
  else
    (0 : Int32) : Int32) fun (v1 : Int32) =>
  if (6 : Int32) < a1 then
    some (0, w)
  else
    if (1 : Int32) < a3 then
      some (0, w)
    else
      if v1 = 0 then
        if (w.1 3 0) < 8 then
          lt_ (if a3 = 1 then
            (1 : Int32)
          else
            (0 : Int32) : Int32) fun (v3 : Int32) =>
          (fX2_append 3 w a1 a2 v3).bind fun (w4 : Wd) =>
          some (1, w4)
        else
          some (0, w)
      else
        some (0, w)
def fX3_twoDigitsAt (w : Wd) (a1 : Int32) : Option (Int32) :=
  (fX3_digitAt w a1).bind fun (r1 : Int32) =>
  (fX3_digitAt w (a1 + 1)).bind fun (r2 : Int32) =>
  some ((10 * r1) + r2)
def fX9_isOutside (a0 : Int32) (a1 : Int32) : Int32 :=
  if a0 < 0 then
    (1 : Int32)
  else
    if a0 ≤ a1 then
      (0 : Int32)
    else
      (1 : Int32)
def fX3_windComes (w : Wd) (a1 : Int32) (a2 : Int32) (a3 : Int32) : Option (Int32 × Wd) :=
  if (fX9_isOutside a1 24) = 0 then
    if a3 ≤ 2 then
      gd_ (ib a1 25) <|
      lt_ (upI w 23 (a1.toNatClampNeg) a2) fun (w1 : Wd) =>
      lt_ (upI w1 24 (a1.toNatClampNeg) a3) fun (w4 : Wd) =>
      some (1, w4)
    else
      some (0, w)
  else
    some (0, w)
def fX3_formComes (w : Wd) (a1 : Int32) (a2 : Int32) : Int32 × Wd :=
  if (2 : Int32) < a1 then
    (0, w)
  else
    if a2 < 1 then
      (0, w)
    else
      if a2 ≤ 2 then
        lt_ (upI w 3 2 a1) fun (w1 : Wd) =>
        lt_ (upI w1 3 3 a2) fun (w3 : Wd) =>
        (1, w3)
      else
        (0, w)
def fX3_doorComes (w : Wd) (a1 : Int32) : Int32 × Wd :=
  if a1 < 1 then
    (0, w)
  else
    if (24 : Int32) < a1 then
      (0, w)
    else
      if (w.1 3 5) ≤ a1 then
        lt_ (upI w 3 4 a1) fun (w1 : Wd) =>
        (1, w1)
      else
        (0, w)
def fX2_hasOne (b : Nat) (w : Wd) (a1 : Int32) : Int32 :=
  if a1 < 0 then
    (0 : Int32)
  else
    if (w.1 b 0) ≤ a1 then
      (0 : Int32)
    else
      (1 : Int32)
def fX2_isSmall (b : Nat) (w : Wd) (a1 : Int32) : Option (Int32) :=
  gd_ (ib a1 8) <|
  if (w.1 (9 + 4 * b) a1.toNatClampNeg) = 6 then
    some (1 : Int32)
  else
    some (0 : Int32)
def fX9_hasBit (a0 : Int32) (a1 : Int32) : Int32 :=
  if (a0 >>> (a1 &&& 31)) &&& 1 = 0 then
    (0 : Int32)
  else
    (1 : Int32)
def fX2_isLit (b : Nat) (w : Wd) (a1 : Int32) : Option (Int32) :=
  gd_ (bz (fX9_hasBit (w.1 b 1) a1)) <|
  some (fX9_hasBit (w.1 b 1) a1)
def fX3_lightComes (w : Wd) (a1 : Int32) : Option (Int32 × Wd) :=
  if (fX2_hasOne 3 w a1) = 0 then
    some (0, w)
  else
    (fX2_isSmall 3 w a1).bind fun (r1 : Int32) =>
    if r1 = 0 then
      (fX2_isLit 3 w a1).bind fun (r2 : Int32) =>
      lt_ (if r2 = 0 then
        (1 : Int32)
      else
        (0 : Int32) : Int32) fun (v3 : Int32) =>
      lt_ (fX2_putLit 3 w a1 v3) fun (w4 : Wd) =>
      some (1, w4)
    else
      some (0, w)
def fX2_isAtDoor (b : Nat) (w : Wd) : Int32 :=
  if (w.1 b 5) < (w.1 b 4) then
    (0 : Int32)
  else
    (1 : Int32)
def fX2_grownOnes_b4 (w : Wd) (b : Nat) (l1 : Int32) (l2 : Int32) : Option ((Int32 × Int32) ⊕ (Int32)) :=
  if (w.1 b 0) ≤ l2 then
    some (.inr l1)
  else
    (fX2_isSmall b w l2).bind fun (r4 : Int32) =>
    if r4 = 0 then
      lt_ (l1 ||| ((1 : Int32) <<< (l2 &&& 31))) fun (v5 : Int32) =>
      lt_ (l2 + 1) fun (v6 : Int32) =>
      some (.inl (v5, v6))
    else
      lt_ (l2 + 1) fun (v7 : Int32) =>
      some (.inl (l1, v7))
def fX2_grownOnes (b : Nat) (w : Wd) : Option (Int32) :=
  (iter (fun s : Int32 × Int32 => fX2_grownOnes_b4 w b s.1 s.2) FU (0, 0)).bind fun (l11 : Int32) =>
  some l11
def fX2_everybody (b : Nat) (w : Wd) : Int32 :=
  ((1 : Int32) <<< ((w.1 b 0) &&& 31)) - 1
def fX2_nearOnes_j77 (b : Nat) (w : Wd) (l5 : Int32) : Option (Int32) :=
  some (l5 &&& (fX2_everybody b w))
def fX2_nearOnes_j47 (b : Nat) (a1 : Int32) (w : Wd) (l2 : Int32) : Option (Int32) :=
  lt_ ((l2 <<< (1 &&& 31)) ||| (l2 >>> (1 &&& 31))) fun (v3 : Int32) =>
  if (w.1 b 2) = 2 then
    lt_ ((((1 : Int32) <<< ((a1 ^^^ 1) &&& 31)) ||| (l2 <<< (2 &&& 31))) ||| (l2 >>> (2 &&& 31))) fun (v4 : Int32) =>
    fX2_nearOnes_j77 b w v4
  else
    fX2_nearOnes_j77 b w v3
def fX2_nearOnes (b : Nat) (w : Wd) (a1 : Int32) : Option (Int32) :=
  lt_ ((1 : Int32) <<< (a1 &&& 31)) fun (v1 : Int32) =>
  if (w.1 b 2) = 1 then
    if (w.1 b 0) ≤ 1 then
      fX2_nearOnes_j47 b a1 w v1
    else
      gd_ (!((w.1 b 0) == 0)) <|
      some (((1 : Int32) <<< ((jrem ((a1 + (w.1 b 0)) - 1) (w.1 b 0)) &&& 31)) ||| ((1 : Int32) <<< ((jrem (a1 + 1) (w.1 b 0)) &&& 31)))
  else
    fX2_nearOnes_j47 b a1 w v1
def fX2_holdsOf (b : Nat) (w : Wd) (a1 : Int32) : Option (Int32) :=
  gd_ (ib a1 8) <|
  lt_ ((w.1 (10 + 4 * b) a1.toNatClampNeg) / 3) fun (v2 : Int32) =>
  lt_ (w.1 (9 + 4 * b) a1.toNatClampNeg) fun (v3 : Int32) =>
  if v3 = 0 then
    some (3 + v2)
  else if v3 = 1 then
    some (5 + v2)
  else if v3 = 3 then
    some (99 : Int32)
  else if v3 = 4 then
    some (2 + v2)
  else if v3 = 5 then
    some ((4 + v2) + ((w.1 (10 + 4 * b) a1.toNatClampNeg) / 2))
  else 
    some (4 + v2)
def fX2_coverer_j66 (b : Nat) (w : Wd) (l3 : Int32) : Option (Int32) :=
  if l3 < 0 then
    some ((-9) : Int32)
  else
    if (w.1 b 0) ≤ l3 then
      some ((-9) : Int32)
    else
      some l3
def fX2_coverer (b : Nat) (w : Wd) (a1 : Int32) (a2 : Int32) : Option (Int32) :=
  if a2 = 2 then
    some ((-9) : Int32)
  else
    lt_ (if (w.1 b 2) = 2 then
      (2 : Int32)
    else
      (1 : Int32) : Int32) fun (v1 : Int32) =>
    lt_ (if a2 = 0 then
      a1 - v1
    else
      a1 + v1 : Int32) fun (v2 : Int32) =>
    if (w.1 b 2) = 1 then
      if (w.1 b 0) ≤ 1 then
        fX2_coverer_j66 b w v2
      else
        gd_ (!((w.1 b 0) == 0)) <|
        some (jrem (v2 + (w.1 b 0)) (w.1 b 0))
    else
      fX2_coverer_j66 b w v2
def fX2_coverFor (b : Nat) (w : Wd) (a1 : Int32) (a2 : Int32) : Option (Int32) :=
  (fX2_coverer b w a1 a2).bind fun (r1 : Int32) =>
  if (0 : Int32) ≤ r1 then
    gd_ (ib r1 8) <|
    gd_ (ib (w.1 (9 + 4 * b) r1.toNatClampNeg) 7) <|
    some (covF (w.1 (9 + 4 * b) r1.toNatClampNeg).toNatClampNeg)
  else
    some (0 : Int32)
def fX8_unsteadyIn_b5 (w : Wd) (a2 : Int32) (a1 : Int32) (l1 : Int32) (l2 : Int32) : Option ((Int32 × Int32) ⊕ (Int32)) :=
  if (w.1 4 0) ≤ l2 then
    some (.inr l1)
  else
    gd_ (ib ((8 * a2) + l2) 24) <|
    if a1 ≤ (w.1 29 ((8 * a2) + l2).toNatClampNeg) then
      lt_ (l2 + 1) fun (v5 : Int32) =>
      some (.inl (l1, v5))
    else
      lt_ (l1 ||| ((1 : Int32) <<< (l2 &&& 31))) fun (v6 : Int32) =>
      lt_ (l2 + 1) fun (v7 : Int32) =>
      some (.inl (v6, v7))
def fX8_unsteadyIn (w : Wd) (a1 : Int32) (a2 : Int32) : Option (Int32) :=
  (iter (fun s : Int32 × Int32 => fX8_unsteadyIn_b5 w a2 a1 s.1 s.2) FU (0, 0)).bind fun (l11 : Int32) =>
  some l11
def fX8_setOut_b79 (b1 : Nat) (l12 : Int32) (r19 : Int32) (l20 : Int32) (w21 : Wd) : Option ((Int32 × Wd) ⊕ (Wd)) :=
  if (2 : Int32) < l20 then
    some (.inr w21)
  else
    (fX2_coverFor b1 w21 l12 l20).bind fun (r23 : Int32) =>
    gd_ (ib ((8 * l20) + l12) 24) <|
    lt_ (upI w21 29 (((8 * l20) + l12).toNatClampNeg) (r19 + r23)) fun (w24 : Wd) =>
    lt_ (l20 + 1) fun (v27 : Int32) =>
    some (.inl (v27, w24))
def fX8_setOut_b51 (b1 : Nat) (l12 : Int32) (w13 : Wd) : Option ((Int32 × Wd) ⊕ (Wd)) :=
  if (w13.1 4 0) ≤ l12 then
    some (.inr w13)
  else
    (fX2_nearOnes b1 w13 l12).bind fun (r15 : Int32) =>
    gd_ (ib l12 8) <|
    lt_ (upI w13 28 (l12.toNatClampNeg) r15) fun (w16 : Wd) =>
    (fX2_holdsOf b1 w16 l12).bind fun (r19 : Int32) =>
    (iter (fun s : Int32 × Wd => fX8_setOut_b79 b1 l12 r19 s.1 s.2) FU (0, w16)).bind fun (w30 : Wd) =>
    lt_ (l12 + 1) fun (v32 : Int32) =>
    some (.inl (v32, w30))
def fX8_setOut_b123 (b1 : Nat) (l38 : Int32) (w39 : Wd) : Option ((Int32 × Wd) ⊕ (Wd)) :=
  if (w39.1 b1 4) ≤ l38 then
    some (.inr w39)
  else
    gd_ (ib l38 25) <|
    (fX8_unsteadyIn w39 (w39.1 (11 + 4 * b1) l38.toNatClampNeg) (w39.1 (12 + 4 * b1) l38.toNatClampNeg)).bind fun (r42 : Int32) =>
    lt_ (upI w39 27 (l38.toNatClampNeg) r42) fun (w43 : Wd) =>
    lt_ (l38 + 1) fun (v45 : Int32) =>
    some (.inl (v45, w43))
def fX8_setOut (b1 : Nat) (w : Wd) : Option (Wd) :=
  lt_ (upI w 4 0 (w.1 b1 0)) fun (w1 : Wd) =>
  (fX2_grownOnes b1 w1).bind fun (r3 : Int32) =>
  lt_ (upI w1 4 1 r3) fun (w4 : Wd) =>
  lt_ (upI w4 4 2 (w4.1 b1 3)) fun (w6 : Wd) =>
  lt_ (upI w6 4 3 (w6.1 b1 5)) fun (w8 : Wd) =>
  lt_ (upI w8 4 4 (jmax 0 ((w8.1 b1 4) - (w8.1 b1 5)))) fun (w10 : Wd) =>
  (iter (fun s : Int32 × Wd => fX8_setOut_b51 b1 s.1 s.2) FU (0, w10)).bind fun (w35 : Wd) =>
  lt_ (w35.1 b1 5) fun (v37 : Int32) =>
  (iter (fun s : Int32 × Wd => fX8_setOut_b123 b1 s.1 s.2) FU (v37, w35)).bind fun (w48 : Wd) =>
  some w48
def fJ6_bitCount_0f7a4 (a0 : Int32) : Int32 :=
  lt_ (a0 - (((a0.toUInt32 >>> ((1 : Int32).toUInt32 &&& Int32.toUInt32 31)).toInt32) &&& 1431655765)) fun (v1 : Int32) =>
  lt_ ((v1 &&& 858993459) + (((v1.toUInt32 >>> ((2 : Int32).toUInt32 &&& Int32.toUInt32 31)).toInt32) &&& 858993459)) fun (v2 : Int32) =>
  lt_ ((v2 + ((v2.toUInt32 >>> ((4 : Int32).toUInt32 &&& Int32.toUInt32 31)).toInt32)) &&& 252645135) fun (v3 : Int32) =>
  lt_ (v3 + ((v3.toUInt32 >>> ((8 : Int32).toUInt32 &&& Int32.toUInt32 31)).toInt32)) fun (v4 : Int32) =>
  lt_ (v4 + ((v4.toUInt32 >>> ((16 : Int32).toUInt32 &&& Int32.toUInt32 31)).toInt32)) fun (v5 : Int32) =>
  v5 &&& 63
def fX8_relight_b51 (l3 : Int32) (l9 : Int32) (l10 : Int32) (w11 : Wd) : Option ((Int32 × Int32 × Wd) ⊕ (Wd)) :=
  if (w11.1 4 2) ≤ l10 then
    some (.inr w11)
  else
    if l9 = 0 then
      some (.inr w11)
    else
      lt_ (l9 &&& (-l9)) fun (v14 : Int32) =>
      gd_ (ib (fJ6_bitCount_0f7a4 (v14 - 1)) 8) <|
      lt_ (upI w11 25 ((fJ6_bitCount_0f7a4 (v14 - 1)).toNatClampNeg) l3) fun (w15 : Wd) =>
      lt_ (upI w15 4 6 ((w15.1 4 6) ||| v14)) fun (w18 : Wd) =>
      lt_ (l9 &&& (v14 ^^^ (-1))) fun (v20 : Int32) =>
      lt_ (l10 + 1) fun (v21 : Int32) =>
      some (.inl (v20, v21, w18))
def fX8_relight_b7 (a1 : Int32) (l3 : Int32) (w4 : Wd) : Option ((Int32 × Wd) ⊕ (Wd)) :=
  if (w4.1 4 0) ≤ l3 then
    some (.inr w4)
  else
    (if (fX9_hasBit a1 l3) = 0 then
      some (0 : Int32)
    else
      gd_ (ib l3 8) <|
      some (((w4.1 28 l3.toNatClampNeg) &&& (w4.1 4 1)) &&& ((a1 ||| (w4.1 4 6)) ^^^ (-1))) : Option Int32).bind fun (v7 : Int32) =>
    (iter (fun s : Int32 × Int32 × Wd => fX8_relight_b51 l3 s.1 s.2.1 s.2.2) FU (v7, 0, w4)).bind fun (w25 : Wd) =>
    lt_ (l3 + 1) fun (v27 : Int32) =>
    some (.inl (v27, w25))
def fX8_relight (w : Wd) (a1 : Int32) : Option (Int32 × Wd) :=
  lt_ (upI w 4 6 0) fun (w1 : Wd) =>
  (iter (fun s : Int32 × Wd => fX8_relight_b7 a1 s.1 s.2) FU (0, w1)).bind fun (w30 : Wd) =>
  some (a1 ||| (w30.1 4 6), w30)
def fX8_minuteAt (w : Wd) (a1 : Int32) (a2 : Int32) : Option (Int32 × Wd) :=
  gd_ (ib a1 25) <|
  lt_ (upI w 4 5 (a2 &&& (w.1 27 a1.toNatClampNeg))) fun (w2 : Wd) =>
  (fX8_relight w2 (a2 &&& ((w2.1 4 5) ^^^ (-1)))).bind fun q6 => un2 q6 fun (r5 : Int32) (w4 : Wd) =>
  some (r5, w4)
def fX8_passMinute (b1 : Nat) (w : Wd) (a2 : Int32) : Option (Wd) :=
  (fX8_setOut b1 w).bind fun (w1 : Wd) =>
  (fX8_minuteAt w1 (w1.1 b1 5) (w1.1 b1 1)).bind fun q5 => un2 q5 fun (r4 : Int32) (w3 : Wd) =>
  lt_ (upI w3 b1 1 r4) fun (w7 : Wd) =>
  lt_ (upI w7 b1 6 ((w7.1 b1 6) + 1)) fun (w9 : Wd) =>
  if a2 = 0 then
    lt_ (upI w9 b1 5 ((w9.1 b1 5) + 1)) fun (w11 : Wd) =>
    some w11
  else
    some w9
def fX3_comes (w : Wd) (a1 : Int32) : Option (Int32 × Wd) :=
  gd_ (ib a1 96) <|
  lt_ (w.1 33 a1.toNatClampNeg) fun (v2 : Int32) =>
  if v2 = 100 then
    (fX3_twoDigitsAt w (a1 + 1)).bind fun (r4 : Int32) =>
    un2 (fX3_doorComes w r4) fun (r6 : Int32) (w5 : Wd) =>
    gd_ (bz r6) <|
    some (r6, w5)
  else if v2 = 102 then
    (fX3_digitAt w (a1 + 1)).bind fun (r10 : Int32) =>
    (fX3_digitAt w (a1 + 2)).bind fun (r11 : Int32) =>
    un2 (fX3_formComes w r10 r11) fun (r13 : Int32) (w12 : Wd) =>
    gd_ (bz r13) <|
    some (r13, w12)
  else if v2 = 108 then
    (fX3_digitAt w (a1 + 1)).bind fun (r17 : Int32) =>
    (fX3_lightComes w r17).bind fun q20 => un2 q20 fun (r19 : Int32) (w18 : Wd) =>
    gd_ (bz r19) <|
    some (r19, w18)
  else if v2 = 112 then
    (fX3_digitAt w (a1 + 1)).bind fun (r24 : Int32) =>
    (fX3_digitAt w (a1 + 2)).bind fun (r25 : Int32) =>
    (fX3_digitAt w (a1 + 3)).bind fun (r26 : Int32) =>
    (fX3_personComes w r24 r25 r26).bind fun q29 => un2 q29 fun (r28 : Int32) (w27 : Wd) =>
    gd_ (bz r28) <|
    some (r28, w27)
  else if v2 = 119 then
    (fX3_twoDigitsAt w (a1 + 1)).bind fun (r33 : Int32) =>
    (fX3_digitAt w (a1 + 3)).bind fun (r34 : Int32) =>
    (fX3_digitAt w (a1 + 4)).bind fun (r35 : Int32) =>
    (fX3_windComes w r33 r34 r35).bind fun q38 => un2 q38 fun (r37 : Int32) (w36 : Wd) =>
    gd_ (bz r37) <|
    some (r37, w36)
  else 
    (fX3_digitAt w (a1 + 1)).bind fun (r41 : Int32) =>
    if (1 : Int32) < r41 then
      some (0, w)
    else
      if (fX2_isAtDoor 3 w) = 0 then
        if (w.1 3 6) < 999 then
          lt_ (if r41 = 1 then
            (1 : Int32)
          else
            (0 : Int32) : Int32) fun (v42 : Int32) =>
          (fX8_passMinute 3 w v42).bind fun (w43 : Wd) =>
          some (1, w43)
        else
          some (0, w)
      else
        some (0, w)
def fX3_comeTo_j67 (b1 : Nat) (w8 : Wd) (l7 : Int32) : Option (Int32 × Wd) :=
  lt_ (fX2_takeFrom b1 3 w8) fun (w9 : Wd) =>
  some (l7, w9)
def fX3_comeTo_b15 (b1 : Nat) (l3 : Int32) (l4 : Int32) (l5 : Int32) (w6 : Wd) : Option ((Int32 × Int32 × Int32 × Wd) ⊕ (Int32 × Wd)) :=
  if (96 : Int32) ≤ l5 then
    (fX3_comeTo_j67 b1 w6 l3).map Sum.inr
  else
    if (w6.1 6 0) ≤ l4 then
      (fX3_comeTo_j67 b1 w6 l3).map Sum.inr
    else
      (fX3_comes w6 l4).bind fun q15 => un2 q15 fun (r14 : Int32) (w13 : Wd) =>
      if r14 = 0 then
        some (.inr ((-2000) - l4, w13))
      else
        lt_ (l3 + 1) fun (v17 : Int32) =>
        gd_ (ib l4 96) <|
        lt_ (l4 + ((fX3_digitsBehind (w13.1 33 l4.toNatClampNeg)) + 2)) fun (v19 : Int32) =>
        lt_ (l5 + 1) fun (v20 : Int32) =>
        some (.inl (v17, v19, v20, w13))
def fX3_comeTo (b1 : Nat) (w : Wd) : Option (Int32 × Wd) :=
  lt_ (fX2_takeFrom 3 b1 w) fun (w1 : Wd) =>
  iter (fun s : Int32 × Int32 × Int32 × Wd => fX3_comeTo_b15 b1 s.1 s.2.1 s.2.2.1 s.2.2.2) FU (0, 0, 0, w1)
def fX5_forget (w : Wd) : Wd :=
  lt_ (upI w 5 0 0) fun (w1 : Wd) =>
  w1
def fX9_road_j35 (w9 : Wd) (l8 : Int32) : Option (Int32 × Wd) :=
  lt_ (upI w9 6 0 0) fun (w10 : Wd) =>
  some (l8, w10)
def fX9_road_j24 (w7 : Wd) (l6 : Int32) : Option (Int32 × Wd) :=
  if l6 < 0 then
    fX9_road_j35 w7 l6
  else
    lt_ (fX5_forget w7) fun (w12 : Wd) =>
    fX9_road_j35 w12 l6
def fX9_road (w : Wd) : Option (Int32 × Wd) :=
  (fX3_textFault w).bind fun (r1 : Int32) =>
  if r1 = 0 then
    (fX3_comeTo 1 w).bind fun q4 => un2 q4 fun (r3 : Int32) (w2 : Wd) =>
    fX9_road_j24 w2 r3
  else
    fX9_road_j24 w r1
def fX2_feltBy (b : Nat) (w : Wd) (a1 : Int32) (a2 : Int32) : Option (Int32) :=
  gd_ (ib a2 25) <|
  (fX2_coverFor b w a1 (w.1 (12 + 4 * b) a2.toNatClampNeg)).bind fun (r2 : Int32) =>
  some (jmax 0 ((w.1 (11 + 4 * b) a2.toNatClampNeg) - r2))
def fX2_tellOf (b : Nat) (w : Wd) (a1 : Int32) (a2 : Int32) : Option (Int32) :=
  if a2 = 0 then
    gd_ (ib a1 8) <|
    some (w.1 (9 + 4 * b) a1.toNatClampNeg)
  else if a2 = 1 then
    gd_ (ib a1 8) <|
    some (w.1 (10 + 4 * b) a1.toNatClampNeg)
  else if a2 = 2 then
    (fX2_isLit b w a1).bind fun (r6 : Int32) =>
    if r6 = 0 then
      some (0 : Int32)
    else
      some (1 : Int32)
  else if a2 = 3 then
    gd_ (ib a1 8) <|
    gd_ (ib (w.1 (9 + 4 * b) a1.toNatClampNeg) 7) <|
    some (covF (w.1 (9 + 4 * b) a1.toNatClampNeg).toNatClampNeg)
  else if a2 = 4 then
    (fX2_holdsOf b w a1).bind fun (r12 : Int32) =>
    some r12
  else if a2 = 5 then
    gd_ (ib a1 8) <|
    gd_ (ib (w.1 (9 + 4 * b) a1.toNatClampNeg) 7) <|
    some (givF (w.1 (9 + 4 * b) a1.toNatClampNeg).toNatClampNeg)
  else 
    (fX2_feltBy b w a1 (w.1 b 5)).bind fun (r16 : Int32) =>
    some r16
def fX9_person (w : Wd) (a1 : Int32) (a2 : Int32) : Option (Int32 × Wd) :=
  if (fX2_hasOne 1 w a1) = 0 then
    (fX9_refuse w (-1)).bind fun q3 => un2 q3 fun (r2 : Int32) (w1 : Wd) =>
    some (r2, w1)
  else
    if (fX9_isOutside a2 6) = 0 then
      (fX2_tellOf 1 w a1 a2).bind fun (r5 : Int32) =>
      some (r5, w)
    else
      (fX9_refuse w (-2)).bind fun q8 => un2 q8 fun (r7 : Int32) (w6 : Wd) =>
      some (r7, w6)
def fX9_light_j55 (a1 : Int32) (a2 : Int32) (w6 : Wd) : Option (Int32 × Wd) :=
  (fX2_isLit 1 w6 a1).bind fun (r7 : Int32) =>
  lt_ (if r7 = 0 then
    (0 : Int32)
  else
    (1 : Int32) : Int32) fun (v8 : Int32) =>
  lt_ (if a2 = 1 then
    (1 : Int32)
  else
    (0 : Int32) : Int32) fun (v9 : Int32) =>
  lt_ (fX2_putLit 1 w6 a1 v9) fun (w10 : Wd) =>
  lt_ (fX5_forget w10) fun (w12 : Wd) =>
  some (v8, w12)
def fX9_light (w : Wd) (a1 : Int32) (a2 : Int32) : Option (Int32 × Wd) :=
  if (fX2_hasOne 1 w a1) = 0 then
    (fX9_refuse w (-1)).bind fun q3 => un2 q3 fun (r2 : Int32) (w1 : Wd) =>
    some (r2, w1)
  else
    if (fX9_isOutside a2 1) = 0 then
      if a2 = 1 then
        (fX2_isSmall 1 w a1).bind fun (r5 : Int32) =>
        if r5 = 0 then
          fX9_light_j55 a1 a2 w
        else
          (fX9_refuse w (-3)).bind fun q16 => un2 q16 fun (r15 : Int32) (w14 : Wd) =>
          some (r15, w14)
      else
        fX9_light_j55 a1 a2 w
    else
      (fX9_refuse w (-2)).bind fun q22 => un2 q22 fun (r21 : Int32) (w20 : Wd) =>
      some (r21, w20)
def fX2_become (b : Nat) (w : Wd) (a1 : Int32) (a2 : Int32) : Option (Wd) :=
  gd_ (ib a1 8) <|
  lt_ (upI w (9 + 4 * b) (a1.toNatClampNeg) a2) fun (w1 : Wd) =>
  if a2 = 6 then
    lt_ (fX2_putLit b w1 a1 0) fun (w4 : Wd) =>
    some w4
  else
    some w1
def fX9_kind (w : Wd) (a1 : Int32) (a2 : Int32) (a3 : Int32) : Option (Int32 × Wd) :=
  if (fX2_hasOne 1 w a1) = 0 then
    (fX9_refuse w (-1)).bind fun q3 => un2 q3 fun (r2 : Int32) (w1 : Wd) =>
    some (r2, w1)
  else
    if (fX9_isOutside a2 6) = 0 then
      if (0 : Int32) ≤ a3 then
        if a3 ≤ 9 then
          gd_ (ib a1 8) <|
          lt_ ((10 * (w.1 13 a1.toNatClampNeg)) + (w.1 14 a1.toNatClampNeg)) fun (v6 : Int32) =>
          lt_ (upI w 14 (a1.toNatClampNeg) a3) fun (w7 : Wd) =>
          (fX2_become 1 w7 a1 a2).bind fun (w9 : Wd) =>
          lt_ (fX5_forget w9) fun (w11 : Wd) =>
          some (v6, w11)
        else
          (fX9_refuse w (-6)).bind fun q15 => un2 q15 fun (r14 : Int32) (w13 : Wd) =>
          some (r14, w13)
      else
        (fX9_refuse w (-4)).bind fun q20 => un2 q20 fun (r19 : Int32) (w18 : Wd) =>
        some (r19, w18)
    else
      (fX9_refuse w (-2)).bind fun q25 => un2 q25 fun (r24 : Int32) (w23 : Wd) =>
      some (r24, w23)
def fX9_wind (w : Wd) (a1 : Int32) (a2 : Int32) : Option (Int32 × Wd) :=
  if (fX9_isOutside a1 24) = 0 then
    if (fX9_isOutside a2 1) = 0 then
      if a2 = 0 then
        gd_ (ib a1 25) <|
        some (w.1 15 a1.toNatClampNeg, w)
      else
        gd_ (ib a1 25) <|
        some (w.1 16 a1.toNatClampNeg, w)
    else
      (fX9_refuse w (-2)).bind fun q6 => un2 q6 fun (r5 : Int32) (w4 : Wd) =>
      some (r5, w4)
  else
    (fX9_refuse w (-1)).bind fun q11 => un2 q11 fun (r10 : Int32) (w9 : Wd) =>
    some (r10, w9)
def fX9_blows_j23 (w1 : Wd) : Option (Int32 × Wd) :=
  (fX9_refuse w1 (-4)).bind fun q4 => un2 q4 fun (r3 : Int32) (w2 : Wd) =>
  some (r3, w2)
def fX9_blows_j41 (w6 : Wd) : Option (Int32 × Wd) :=
  (fX9_refuse w6 (-6)).bind fun q9 => un2 q9 fun (r8 : Int32) (w7 : Wd) =>
  some (r8, w7)
def fX9_blows (w : Wd) (a1 : Int32) (a2 : Int32) (a3 : Int32) : Option (Int32 × Wd) :=
  if (fX9_isOutside a1 24) = 0 then
    if a2 < 0 then
      fX9_blows_j23 w
    else
      if (0 : Int32) ≤ a3 then
        if (9 : Int32) < a2 then
          fX9_blows_j41 w
        else
          if a3 ≤ 2 then
            gd_ (ib a1 25) <|
            lt_ ((10 * (w.1 15 a1.toNatClampNeg)) + (w.1 16 a1.toNatClampNeg)) fun (v12 : Int32) =>
            lt_ (upI w 15 (a1.toNatClampNeg) a2) fun (w13 : Wd) =>
            lt_ (upI w13 16 (a1.toNatClampNeg) a3) fun (w15 : Wd) =>
            lt_ (fX5_forget w15) fun (w17 : Wd) =>
            some (v12, w17)
          else
            fX9_blows_j41 w
      else
        fX9_blows_j23 w
  else
    (fX9_refuse w (-1)).bind fun q25 => un2 q25 fun (r24 : Int32) (w23 : Wd) =>
    some (r24, w23)
def fX9_leastOf (a0 : Int32) : Int32 :=
  if a0 = 0 then
    (0 : Int32)
  else
    (1 : Int32)
def fX9_mostOf (a0 : Int32) : Int32 :=
  if a0 = 0 then
    (2 : Int32)
  else
    if a0 = 1 then
      (2 : Int32)
    else
      (24 : Int32)
def fX9_change (w : Wd) (a1 : Int32) (a2 : Int32) : Int32 × Wd :=
  if a1 = 0 then
    lt_ (w.1 1 2) fun (v1 : Int32) =>
    lt_ (upI w 1 2 a2) fun (w2 : Wd) =>
    (v1, w2)
  else
    if a1 = 1 then
      lt_ (w.1 1 3) fun (v4 : Int32) =>
      lt_ (upI w 1 3 a2) fun (w5 : Wd) =>
      (v4, w5)
    else
      lt_ (w.1 1 4) fun (v7 : Int32) =>
      lt_ (upI w 1 4 a2) fun (w8 : Wd) =>
      (v7, w8)
def fX9_set_j68 (a1 : Int32) (a2 : Int32) (w1 : Wd) : Option (Int32 × Wd) :=
  lt_ (fX5_forget w1) fun (w2 : Wd) =>
  un2 (fX9_change w2 a1 a2) fun (r5 : Int32) (w4 : Wd) =>
  some (r5, w4)
def fX9_set (w : Wd) (a1 : Int32) (a2 : Int32) : Option (Int32 × Wd) :=
  if (fX9_isOutside a1 2) = 0 then
    if (fX9_leastOf a1) ≤ a2 then
      if a2 ≤ (fX9_mostOf a1) then
        if a1 = 2 then
          if (w.1 1 5) ≤ a2 then
            fX9_set_j68 a1 a2 w
          else
            (fX9_refuse w (-3)).bind fun q9 => un2 q9 fun (r8 : Int32) (w7 : Wd) =>
            some (r8, w7)
        else
          fX9_set_j68 a1 a2 w
      else
        (fX9_refuse w (-6)).bind fun q15 => un2 q15 fun (r14 : Int32) (w13 : Wd) =>
        some (r14, w13)
    else
      (fX9_refuse w (-4)).bind fun q20 => un2 q20 fun (r19 : Int32) (w18 : Wd) =>
      some (r19, w18)
  else
    (fX9_refuse w (-2)).bind fun q25 => un2 q25 fun (r24 : Int32) (w23 : Wd) =>
    some (r24, w23)
def fX9_beside (w : Wd) (a1 : Int32) : Option (Int32 × Wd) :=
  if (fX2_hasOne 1 w a1) = 0 then
    (fX9_refuse w (-1)).bind fun q3 => un2 q3 fun (r2 : Int32) (w1 : Wd) =>
    some (r2, w1)
  else
    (fX2_nearOnes 1 w a1).bind fun (r5 : Int32) =>
    some (r5, w)
def fX9_covers_j20 (w1 : Wd) : Option (Int32 × Wd) :=
  (fX9_refuse w1 (-1)).bind fun q4 => un2 q4 fun (r3 : Int32) (w2 : Wd) =>
  some (r3, w2)
def fX9_covers (w : Wd) (a1 : Int32) (a2 : Int32) : Option (Int32 × Wd) :=
  if (fX2_hasOne 1 w a1) = 0 then
    fX9_covers_j20 w
  else
    if (fX9_isOutside a2 24) = 0 then
      gd_ (ib a2 25) <|
      (fX2_coverer 1 w a1 (w.1 16 a2.toNatClampNeg)).bind fun (r7 : Int32) =>
      some (r7, w)
    else
      fX9_covers_j20 w
def fX5_dropOldest_b2 (l1 : Int32) (w2 : Wd) : Option ((Int32 × Wd) ⊕ (Wd)) :=
  if (w2.1 5 0) ≤ l1 then
    some (.inr w2)
  else
    gd_ (ib l1 8) <|
    gd_ (ib (l1 - 1) 8) <|
    lt_ (upI w2 30 ((l1 - 1).toNatClampNeg) (w2.1 30 l1.toNatClampNeg)) fun (w5 : Wd) =>
    lt_ (upI w5 31 ((l1 - 1).toNatClampNeg) (w5.1 31 l1.toNatClampNeg)) fun (w8 : Wd) =>
    lt_ (upI w8 32 ((l1 - 1).toNatClampNeg) (w8.1 32 l1.toNatClampNeg)) fun (w10 : Wd) =>
    lt_ (l1 + 1) fun (v12 : Int32) =>
    some (.inl (v12, w10))
def fX5_dropOldest (w : Wd) : Option (Wd) :=
  (iter (fun s : Int32 × Wd => fX5_dropOldest_b2 s.1 s.2) FU (1, w)).bind fun (w15 : Wd) =>
  lt_ (upI w15 5 0 ((w15.1 5 0) - 1)) fun (w17 : Wd) =>
  some w17
def fX5_keep_j13 (b1 : Nat) (w3 : Wd) : Option (Wd) :=
  gd_ (ib (w3.1 5 0) 8) <|
  lt_ (upI w3 30 ((w3.1 5 0).toNatClampNeg) (w3.1 b1 1)) fun (w4 : Wd) =>
  gd_ (ib (w4.1 5 0) 8) <|
  lt_ (upI w4 31 ((w4.1 5 0).toNatClampNeg) (w4.1 b1 5)) fun (w7 : Wd) =>
  gd_ (ib (w7.1 5 0) 8) <|
  lt_ (upI w7 32 ((w7.1 5 0).toNatClampNeg) (w7.1 b1 6)) fun (w10 : Wd) =>
  lt_ (upI w10 5 0 ((w10.1 5 0) + 1)) fun (w13 : Wd) =>
  some w13
def fX5_keep (b1 : Nat) (w : Wd) : Option (Wd) :=
  if (w.1 5 0) = 8 then
    (fX5_dropOldest w).bind fun (w1 : Wd) =>
    fX5_keep_j13 b1 w1
  else
    fX5_keep_j13 b1 w
def fX9_go (w : Wd) (a1 : Int32) : Option (Int32 × Wd) :=
  if (fX9_isOutside a1 1) = 0 then
    if (fX2_isAtDoor 1 w) = 0 then
      if (w.1 1 6) < 999 then
        (fX5_keep 1 w).bind fun (w1 : Wd) =>
        lt_ (if a1 = 1 then
          (1 : Int32)
        else
          (0 : Int32) : Int32) fun (v3 : Int32) =>
        (fX8_passMinute 1 w1 v3).bind fun (w4 : Wd) =>
        some (fJ6_bitCount_0f7a4 (w4.1 1 1), w4)
      else
        (fX9_refuse w (-6)).bind fun q8 => un2 q8 fun (r7 : Int32) (w6 : Wd) =>
        some (r7, w6)
    else
      (fX9_refuse w (-3)).bind fun q13 => un2 q13 fun (r12 : Int32) (w11 : Wd) =>
      some (r12, w11)
  else
    (fX9_refuse w (-2)).bind fun q18 => un2 q18 fun (r17 : Int32) (w16 : Wd) =>
    some (r17, w16)
def fX9_lit (w : Wd) : Int32 :=
  w.1 1 1
def fX8_walkOn_b9 (l3 : Int32) (w4 : Wd) : Option ((Int32 × Wd) ⊕ (Wd)) :=
  if (w4.1 4 4) ≤ l3 then
    some (.inr w4)
  else
    gd_ (ib l3 25) <|
    (fX8_minuteAt w4 ((w4.1 4 3) + l3) (w4.1 26 l3.toNatClampNeg)).bind fun q9 => un2 q9 fun (r8 : Int32) (w7 : Wd) =>
    gd_ (ib (l3 + 1) 25) <|
    lt_ (upI w7 26 ((l3 + 1).toNatClampNeg) r8) fun (w11 : Wd) =>
    lt_ (l3 + 1) fun (v14 : Int32) =>
    some (.inl (v14, w11))
def fX8_walkOn (w : Wd) (a1 : Int32) : Option (Wd) :=
  lt_ (upI w 26 0 a1) fun (w1 : Wd) =>
  (iter (fun s : Int32 × Wd => fX8_walkOn_b9 s.1 s.2) FU (0, w1)).bind fun (w17 : Wd) =>
  some w17
def fX4_walkFromNow (w : Wd) : Option (Wd) :=
  (fX8_setOut 1 w).bind fun (w1 : Wd) =>
  (fX8_walkOn w1 (w1.1 1 1)).bind fun (w3 : Wd) =>
  some w3
def fX4_litBehind (w : Wd) (a1 : Int32) : Option (Int32 × Wd) :=
  (fX4_walkFromNow w).bind fun (w1 : Wd) =>
  gd_ (ib (jmin a1 (w1.1 4 4)) 25) <|
  some (w1.1 26 (jmin a1 (w1.1 4 4)).toNatClampNeg, w1)
def fX9_then (w : Wd) (a1 : Int32) : Option (Int32 × Wd) :=
  if (0 : Int32) ≤ a1 then
    if a1 ≤ 24 then
      (fX4_litBehind w a1).bind fun q3 => un2 q3 fun (r2 : Int32) (w1 : Wd) =>
      some (r2, w1)
    else
      (fX9_refuse w (-6)).bind fun q7 => un2 q7 fun (r6 : Int32) (w5 : Wd) =>
      some (r6, w5)
  else
    (fX9_refuse w (-4)).bind fun q12 => un2 q12 fun (r11 : Int32) (w10 : Wd) =>
    some (r11, w10)
def fX2_lightOf_b4 (w : Wd) (b : Nat) (a1 : Int32) (l1 : Int32) (l2 : Int32) : Option ((Int32 × Int32) ⊕ (Int32)) :=
  if (w.1 b 0) ≤ l2 then
    some (.inr l1)
  else
    if (fX9_hasBit a1 l2) = 0 then
      lt_ (l2 + 1) fun (v4 : Int32) =>
      some (.inl (l1, v4))
    else
      gd_ (ib l2 8) <|
      gd_ (ib (w.1 (9 + 4 * b) l2.toNatClampNeg) 7) <|
      lt_ (l1 + (givF (w.1 (9 + 4 * b) l2.toNatClampNeg).toNatClampNeg)) fun (v7 : Int32) =>
      lt_ (l2 + 1) fun (v8 : Int32) =>
      some (.inl (v7, v8))
def fX2_lightOf (b : Nat) (w : Wd) (a1 : Int32) : Option (Int32) :=
  (iter (fun s : Int32 × Int32 => fX2_lightOf_b4 w b a1 s.1 s.2) FU (0, 0)).bind fun (l12 : Int32) =>
  some l12
def fX9_door (w : Wd) (a1 : Int32) : Option (Int32 × Wd) :=
  if (fX9_isOutside a1 2) = 0 then
    (fX4_litBehind w 24).bind fun q3 => un2 q3 fun (r2 : Int32) (w1 : Wd) =>
    if a1 = 0 then
      some (r2, w1)
    else
      if a1 = 1 then
        some (fJ6_bitCount_0f7a4 r2, w1)
      else
        (fX2_lightOf 1 w1 r2).bind fun (r5 : Int32) =>
        some (r5, w1)
  else
    (fX9_refuse w (-2)).bind fun q10 => un2 q10 fun (r9 : Int32) (w8 : Wd) =>
    some (r9, w8)
def fX4_firstDark_b6 (w1 : Wd) (l3 : Int32) : Option ((Int32) ⊕ (Int32 × Wd)) :=
  if (w1.1 4 4) < l3 then
    some (.inr ((-9), w1))
  else
    gd_ (ib l3 25) <|
    if (w1.1 26 l3.toNatClampNeg) = 0 then
      some (.inr (l3, w1))
    else
      lt_ (l3 + 1) fun (v5 : Int32) =>
      some (.inl v5)
def fX4_firstDark (w : Wd) : Option (Int32 × Wd) :=
  (fX4_walkFromNow w).bind fun (w1 : Wd) =>
  iter (fun s : Int32 => fX4_firstDark_b6 w1 s) FU (0 : Int32)
def fX4_longestDark_b10 (w1 : Wd) (l3 : Int32) (l4 : Int32) (l5 : Int32) : Option ((Int32 × Int32 × Int32) ⊕ (Int32)) :=
  if (w1.1 4 4) < l5 then
    some (.inr l3)
  else
    gd_ (ib l5 25) <|
    lt_ (if (w1.1 26 l5.toNatClampNeg) = 0 then
      l4 + 1
    else
      (0 : Int32) : Int32) fun (v8 : Int32) =>
    lt_ (jmax l3 v8) fun (v9 : Int32) =>
    lt_ (l5 + 1) fun (v10 : Int32) =>
    some (.inl (v9, v8, v10))
def fX4_longestDark (w : Wd) : Option (Int32 × Wd) :=
  (fX4_walkFromNow w).bind fun (w1 : Wd) =>
  (iter (fun s : Int32 × Int32 × Int32 => fX4_longestDark_b10 w1 s.1 s.2.1 s.2.2) FU (0, 0, 1)).bind fun (l13 : Int32) =>
  some (l13, w1)
def fX9_dark (w : Wd) (a1 : Int32) : Option (Int32 × Wd) :=
  if (fX9_isOutside a1 1) = 0 then
    if a1 = 0 then
      (fX4_firstDark w).bind fun q3 => un2 q3 fun (r2 : Int32) (w1 : Wd) =>
      some (r2, w1)
    else
      (fX4_longestDark w).bind fun q7 => un2 q7 fun (r6 : Int32) (w5 : Wd) =>
      some (r6, w5)
  else
    (fX9_refuse w (-2)).bind fun q12 => un2 q12 fun (r11 : Int32) (w10 : Wd) =>
    some (r11, w10)
def fX4_darkEnds_b4 (w : Wd) (a1 : Int32) (l1 : Int32) (l2 : Int32) : Option ((Int32 × Int32) ⊕ (Int32)) :=
  if (w.1 4 4) < l2 then
    some (.inr l1)
  else
    gd_ (ib l2 25) <|
    if (fX9_hasBit (w.1 26 l2.toNatClampNeg) a1) = 0 then
      lt_ (l1 + 1) fun (v5 : Int32) =>
      lt_ (l2 + 1) fun (v6 : Int32) =>
      some (.inl (v5, v6))
    else
      lt_ (l2 + 1) fun (v7 : Int32) =>
      some (.inl (l1, v7))
def fX4_darkEnds (w : Wd) (a1 : Int32) : Option (Int32) :=
  (iter (fun s : Int32 × Int32 => fX4_darkEnds_b4 w a1 s.1 s.2) FU (0, 1)).bind fun (l11 : Int32) =>
  some l11
def fX4_darkMinutes (w : Wd) (a1 : Int32) : Option (Int32 × Wd) :=
  (fX4_walkFromNow w).bind fun (w1 : Wd) =>
  (fX4_darkEnds w1 a1).bind fun (r3 : Int32) =>
  some (r3, w1)
def fX9_darkFor (w : Wd) (a1 : Int32) : Option (Int32 × Wd) :=
  if (fX2_hasOne 1 w a1) = 0 then
    (fX9_refuse w (-1)).bind fun q3 => un2 q3 fun (r2 : Int32) (w1 : Wd) =>
    some (r2, w1)
  else
    (fX4_darkMinutes w a1).bind fun q7 => un2 q7 fun (r6 : Int32) (w5 : Wd) =>
    some (r6, w5)
def fX4_lastLighter_b39 (v4 : Int32) (a1 : Int32) (l5 : Int32) (l6 : Int32) (l7 : Int32) (w8 : Wd) : Option ((Int32 × Int32 × Int32 × Wd) ⊕ (Int32 × Wd)) :=
  if v4 ≤ l7 then
    some (.inr (l5, w8))
  else
    (fX8_minuteAt w8 ((w8.1 4 3) + l7) l6).bind fun q12 => un2 q12 fun (r11 : Int32) (w10 : Wd) =>
    if (fX9_hasBit (w10.1 4 6) a1) = 0 then
      lt_ (l7 + 1) fun (v14 : Int32) =>
      some (.inl (l5, r11, v14, w10))
    else
      gd_ (ib a1 8) <|
      lt_ (w10.1 25 a1.toNatClampNeg) fun (v16 : Int32) =>
      lt_ (l7 + 1) fun (v17 : Int32) =>
      some (.inl (v16, r11, v17, w10))
def fX4_lastLighter (w : Wd) (a1 : Int32) (a2 : Int32) : Option (Int32 × Wd) :=
  (fX8_setOut 1 w).bind fun (w1 : Wd) =>
  lt_ (w1.1 1 1) fun (v3 : Int32) =>
  lt_ (jmin a2 (w1.1 4 4)) fun (v4 : Int32) =>
  (iter (fun s : Int32 × Int32 × Int32 × Wd => fX4_lastLighter_b39 v4 a1 s.1 s.2.1 s.2.2.1 s.2.2.2) FU ((-9), v3, 0, w1)).bind fun x20 => un2 x20 fun (l21 : Int32) (w22 : Wd) =>
  some (l21, w22)
def fX9_litBy (w : Wd) (a1 : Int32) (a2 : Int32) : Option (Int32 × Wd) :=
  if (fX2_hasOne 1 w a1) = 0 then
    (fX9_refuse w (-1)).bind fun q3 => un2 q3 fun (r2 : Int32) (w1 : Wd) =>
    some (r2, w1)
  else
    if (0 : Int32) ≤ a2 then
      if a2 ≤ 24 then
        (fX4_lastLighter w a1 a2).bind fun q7 => un2 q7 fun (r6 : Int32) (w5 : Wd) =>
        some (r6, w5)
      else
        (fX9_refuse w (-6)).bind fun q11 => un2 q11 fun (r10 : Int32) (w9 : Wd) =>
        some (r10, w9)
    else
      (fX9_refuse w (-4)).bind fun q16 => un2 q16 fun (r15 : Int32) (w14 : Wd) =>
      some (r15, w14)
def fX6_startFromNow (w : Wd) : Option (Int32 × Wd) :=
  (fX8_setOut 1 w).bind fun (w1 : Wd) =>
  (fX8_walkOn w1 (w1.1 1 1)).bind fun (w3 : Wd) =>
  gd_ (ib (w3.1 4 4) 25) <|
  some (fJ6_bitCount_0f7a4 (w3.1 26 (w3.1 4 4).toNatClampNeg), w3)
def fX8_atDoorFrom_b5 (l1 : Int32) (l2 : Int32) (w3 : Wd) : Option ((Int32 × Int32 × Wd) ⊕ (Int32 × Wd)) :=
  if (w3.1 4 4) ≤ l2 then
    some (.inr (l1, w3))
  else
    if l1 = 0 then
      some (.inr (l1, w3))
    else
      gd_ (ib ((w3.1 4 3) + l2) 25) <|
      (fX8_relight w3 (l1 &&& ((w3.1 27 ((w3.1 4 3) + l2).toNatClampNeg) ^^^ (-1)))).bind fun q9 => un2 q9 fun (r8 : Int32) (w7 : Wd) =>
      lt_ (l2 + 1) fun (v11 : Int32) =>
      some (.inl (r8, v11, w7))
def fX8_atDoorFrom (w : Wd) (a1 : Int32) (a2 : Int32) : Option (Int32 × Wd) :=
  (iter (fun s : Int32 × Int32 × Wd => fX8_atDoorFrom_b5 s.1 s.2.1 s.2.2) FU (a2, a1, w)).bind fun x14 => un2 x14 fun (l15 : Int32) (w16 : Wd) =>
  some (l15, w16)
def fX6_withStop_b13 (a2 : Int32) (a1 : Int32) (l3 : Int32) (l4 : Int32) (w5 : Wd) : Option ((Int32 × Int32 × Wd) ⊕ (Int32 × Wd)) :=
  if a2 ≤ l4 then
    some (.inr (l3, w5))
  else
    (fX8_minuteAt w5 ((w5.1 4 3) + a1) l3).bind fun q9 => un2 q9 fun (r8 : Int32) (w7 : Wd) =>
    lt_ (l4 + 1) fun (v11 : Int32) =>
    some (.inl (r8, v11, w7))
def fX6_withStop (w : Wd) (a1 : Int32) (a2 : Int32) : Option (Int32 × Wd) :=
  gd_ (ib a1 25) <|
  lt_ (w.1 26 a1.toNatClampNeg) fun (v2 : Int32) =>
  (iter (fun s : Int32 × Int32 × Wd => fX6_withStop_b13 a2 a1 s.1 s.2.1 s.2.2) FU (v2, 0, w)).bind fun x13 => un2 x13 fun (l14 : Int32) (w15 : Wd) =>
  (fX8_atDoorFrom w15 a1 l14).bind fun q19 => un2 q19 fun (r18 : Int32) (w17 : Wd) =>
  some (r18, w17)
def fX6_bestStop_b18 (l7 : Int32) (l10 : Int32) (l11 : Int32) (l12 : Int32) (w13 : Wd) : Option ((Int32 × Int32 × Int32 × Wd) ⊕ (Int32 × Int32 × Wd)) :=
  if (w13.1 4 4) ≤ l12 then
    some (.inr (l10, l11, w13))
  else
    (fX6_withStop w13 l12 l7).bind fun q17 => un2 q17 fun (r16 : Int32) (w15 : Wd) =>
    lt_ (fJ6_bitCount_0f7a4 r16) fun (v19 : Int32) =>
    if v19 ≤ l10 then
      lt_ (l12 + 1) fun (v20 : Int32) =>
      some (.inl (l10, l11, v20, w15))
    else
      lt_ ((10 * ((w15.1 4 3) + l12)) + l7) fun (v21 : Int32) =>
      lt_ (l12 + 1) fun (v22 : Int32) =>
      some (.inl (v19, v21, v22, w15))
def fX6_bestStop_b10 (l5 : Int32) (l6 : Int32) (l7 : Int32) (w8 : Wd) : Option ((Int32 × Int32 × Int32 × Wd) ⊕ (Int32 × Wd)) :=
  if (5 : Int32) < l7 then
    some (.inr (l6, w8))
  else
    (iter (fun s : Int32 × Int32 × Int32 × Wd => fX6_bestStop_b18 l7 s.1 s.2.1 s.2.2.1 s.2.2.2) FU (l5, l6, 0, w8)).bind fun x25 => un3 x25 fun (l26 : Int32) (l27 : Int32) (w28 : Wd) =>
    lt_ (l7 + 1) fun (v30 : Int32) =>
    some (.inl (l26, l27, v30, w28))
def fX6_bestStop (w : Wd) : Option (Int32 × Wd) :=
  (fX6_startFromNow w).bind fun q3 => un2 q3 fun (r2 : Int32) (w1 : Wd) =>
  (iter (fun s : Int32 × Int32 × Int32 × Wd => fX6_bestStop_b10 s.1 s.2.1 s.2.2.1 s.2.2.2) FU (r2, (-9), 1, w1)).bind fun x32 => un2 x32 fun (l33 : Int32) (w34 : Wd) =>
  some (l33, w34)
def fX9_stop (w : Wd) : Option (Int32 × Wd) :=
  (fX6_bestStop w).bind fun q3 => un2 q3 fun (r2 : Int32) (w1 : Wd) =>
  some (r2, w1)
def fX1_doorOf (b1 : Nat) (w : Wd) : Option (Int32 × Wd) :=
  (fX8_setOut b1 w).bind fun (w1 : Wd) =>
  (fX8_atDoorFrom w1 0 (w1.1 b1 1)).bind fun q5 => un2 q5 fun (r4 : Int32) (w3 : Wd) =>
  some (r4, w3)
def fX1_startSearch (w : Wd) (a1 : Int32) : Wd :=
  lt_ (upI w 10 0 (-9)) fun (w1 : Wd) =>
  lt_ (upI w1 10 1 a1) fun (w3 : Wd) =>
  w3
def fX1_consider (w : Wd) (a1 : Int32) (a2 : Int32) : Wd :=
  if a2 ≤ (w.1 10 1) then
    w
  else
    lt_ (upI w 10 1 a2) fun (w1 : Wd) =>
    lt_ (upI w1 10 0 a1) fun (w3 : Wd) =>
    w3
def fX1_lowered_b21 (l8 : Int32) (w9 : Wd) : Option ((Int32 × Wd) ⊕ (Wd)) :=
  if (w9.1 1 0) ≤ l8 then
    some (.inr w9)
  else
    lt_ (fX2_takeFrom 3 1 w9) fun (w11 : Wd) =>
    (fX2_become 3 w11 l8 2).bind fun (w13 : Wd) =>
    (fX1_doorOf 3 w13).bind fun q17 => un2 q17 fun (r16 : Int32) (w15 : Wd) =>
    (fX2_lightOf 3 w15 r16).bind fun (r19 : Int32) =>
    lt_ (fX1_consider w15 l8 r19) fun (w20 : Wd) =>
    lt_ (l8 + 1) fun (v22 : Int32) =>
    some (.inl (v22, w20))
def fX1_lowered (w : Wd) : Option (Int32 × Wd) :=
  (fX1_doorOf 1 w).bind fun q3 => un2 q3 fun (r2 : Int32) (w1 : Wd) =>
  (fX2_lightOf 1 w1 r2).bind fun (r5 : Int32) =>
  lt_ (fX1_startSearch w1 r5) fun (w6 : Wd) =>
  (iter (fun s : Int32 × Wd => fX1_lowered_b21 s.1 s.2) FU (0, w6)).bind fun (w25 : Wd) =>
  some (w25.1 10 0, w25)
def fX9_lower (w : Wd) : Option (Int32 × Wd) :=
  (fX1_lowered w).bind fun q3 => un2 q3 fun (r2 : Int32) (w1 : Wd) =>
  some (r2, w1)
def fX1_countOf (b1 : Nat) (w : Wd) : Option (Int32 × Wd) :=
  (fX8_setOut b1 w).bind fun (w1 : Wd) =>
  (fX8_atDoorFrom w1 0 (w1.1 b1 1)).bind fun q5 => un2 q5 fun (r4 : Int32) (w3 : Wd) =>
  some (fJ6_bitCount_0f7a4 r4, w3)
def fX2_copyOne (b : Nat) (b2 : Nat) (w : Wd) (a1 : Int32) (a3 : Int32) : Option (Wd) :=
  if (fX2_hasOne b w a1) = 0 then
    some w
  else
    if (fX2_hasOne b2 w a3) = 0 then
      some w
    else
      gd_ (ib a3 8) <|
      gd_ (ib a1 8) <|
      lt_ (upI w (9 + 4 * b) (a1.toNatClampNeg) (w.1 (9 + 4 * b2) a3.toNatClampNeg)) fun (w2 : Wd) =>
      lt_ (upI w2 (10 + 4 * b) (a1.toNatClampNeg) (w2.1 (10 + 4 * b2) a3.toNatClampNeg)) fun (w5 : Wd) =>
      (fX2_isLit b2 w5 a3).bind fun (r7 : Int32) =>
      lt_ (fX2_putLit b w5 a1 r7) fun (w8 : Wd) =>
      some w8
def fX1_exchanged_b29 (l7 : Int32) (l11 : Int32) (w12 : Wd) : Option ((Int32 × Wd) ⊕ (Wd)) :=
  if (w12.1 1 0) ≤ l11 then
    some (.inr w12)
  else
    lt_ (fX2_takeFrom 3 1 w12) fun (w14 : Wd) =>
    (fX2_copyOne 3 1 w14 l7 l11).bind fun (w16 : Wd) =>
    (fX2_copyOne 3 1 w16 l11 l7).bind fun (w18 : Wd) =>
    (fX1_countOf 3 w18).bind fun q22 => un2 q22 fun (r21 : Int32) (w20 : Wd) =>
    lt_ (fX1_consider w20 ((10 * l7) + l11) r21) fun (w24 : Wd) =>
    lt_ (l11 + 1) fun (v26 : Int32) =>
    some (.inl (v26, w24))
def fX1_exchanged_b14 (l7 : Int32) (w8 : Wd) : Option ((Int32 × Wd) ⊕ (Wd)) :=
  if (w8.1 1 0) ≤ l7 then
    some (.inr w8)
  else
    lt_ (l7 + 1) fun (v10 : Int32) =>
    (iter (fun s : Int32 × Wd => fX1_exchanged_b29 l7 s.1 s.2) FU (v10, w8)).bind fun (w29 : Wd) =>
    lt_ (l7 + 1) fun (v31 : Int32) =>
    some (.inl (v31, w29))
def fX1_exchanged (w : Wd) : Option (Int32 × Wd) :=
  (fX1_countOf 1 w).bind fun q3 => un2 q3 fun (r2 : Int32) (w1 : Wd) =>
  lt_ (fX1_startSearch w1 r2) fun (w5 : Wd) =>
  (iter (fun s : Int32 × Wd => fX1_exchanged_b14 s.1 s.2) FU (0, w5)).bind fun (w34 : Wd) =>
  some (w34.1 10 0, w34)
def fX9_changed (w : Wd) : Option (Int32 × Wd) :=
  (fX1_exchanged w).bind fun q3 => un2 q3 fun (r2 : Int32) (w1 : Wd) =>
  some (r2, w1)
def fX1_orderAsDigits_b6 (w : Wd) (l2 : Int32) (l3 : Int32) : Option ((Int32 × Int32) ⊕ (Int32)) :=
  if l3 < 0 then
    some (.inr l2)
  else
    gd_ (ib l3 6) <|
    lt_ ((10 * l2) + (w.1 37 l3.toNatClampNeg)) fun (v6 : Int32) =>
    lt_ (l3 + (-1)) fun (v7 : Int32) =>
    some (.inl (v6, v7))
def fX1_orderAsDigits (w : Wd) (a1 : Int32) : Option (Int32) :=
  lt_ (a1 - 1) fun (v1 : Int32) =>
  (iter (fun s : Int32 × Int32 => fX1_orderAsDigits_b6 w s.1 s.2) FU (0, v1)).bind fun (l10 : Int32) =>
  some l10
def fX1_exchangePlaces (w : Wd) (a1 : Int32) (a2 : Int32) : Option (Wd) :=
  gd_ (ib a1 6) <|
  lt_ (w.1 37 a1.toNatClampNeg) fun (v2 : Int32) =>
  gd_ (ib a2 6) <|
  lt_ (upI w 37 (a1.toNatClampNeg) (w.1 37 a2.toNatClampNeg)) fun (w4 : Wd) =>
  lt_ (upI w4 37 (a2.toNatClampNeg) v2) fun (w6 : Wd) =>
  some w6
def fX1_nextOrder_b4 (w : Wd) (l2 : Int32) : Option ((Int32) ⊕ (Int32)) :=
  if l2 < 0 then
    some (.inr l2)
  else
    gd_ (ib l2 6) <|
    gd_ (ib (l2 + 1) 6) <|
    if (w.1 37 l2.toNatClampNeg) ≤ (w.1 37 (l2 + 1).toNatClampNeg) then
      some (.inr l2)
    else
      lt_ (l2 + (-1)) fun (v7 : Int32) =>
      some (.inl v7)
def fX1_nextOrder_b40 (l12 : Int32) (w13 : Wd) (l15 : Int32) : Option ((Int32) ⊕ (Int32)) :=
  if l15 ≤ l12 then
    some (.inr l15)
  else
    gd_ (ib l15 6) <|
    gd_ (ib l12 6) <|
    if (w13.1 37 l12.toNatClampNeg) ≤ (w13.1 37 l15.toNatClampNeg) then
      some (.inr l15)
    else
      lt_ (l15 + (-1)) fun (v20 : Int32) =>
      some (.inl v20)
def fX1_nextOrder_b82 (l32 : Int32) (l33 : Int32) (w34 : Wd) : Option ((Int32 × Int32 × Wd) ⊕ (Wd)) :=
  if l33 ≤ l32 then
    some (.inr w34)
  else
    (fX1_exchangePlaces w34 l32 l33).bind fun (w36 : Wd) =>
    lt_ (l32 + 1) fun (v38 : Int32) =>
    lt_ (l33 + (-1)) fun (v39 : Int32) =>
    some (.inl (v38, v39, w36))
def fX1_nextOrder_j66 (a1 : Int32) (w27 : Wd) (l25 : Int32) (l26 : Int32) : Option (Wd) :=
  (fX1_exchangePlaces w27 l25 l26).bind fun (w28 : Wd) =>
  lt_ (l25 + 1) fun (v30 : Int32) =>
  lt_ (a1 - 1) fun (v31 : Int32) =>
  (iter (fun s : Int32 × Int32 × Wd => fX1_nextOrder_b82 s.1 s.2.1 s.2.2) FU (v30, v31, w28)).bind fun (w42 : Wd) =>
  some w42
def fX1_nextOrder_j31 (a1 : Int32) (w13 : Wd) (l12 : Int32) : Option (Wd) :=
  if (0 : Int32) ≤ l12 then
    lt_ (a1 - 1) fun (v14 : Int32) =>
    (iter (fun s : Int32 => fX1_nextOrder_b40 l12 w13 s) FU v14).bind fun (l24 : Int32) =>
    fX1_nextOrder_j66 a1 w13 l12 l24
  else
    some w13
def fX1_nextOrder (w : Wd) (a1 : Int32) : Option (Wd) :=
  lt_ (a1 - 2) fun (v1 : Int32) =>
  (iter (fun s : Int32 => fX1_nextOrder_b4 w s) FU v1).bind fun (l11 : Int32) =>
  fX1_nextOrder_j31 a1 w l11
def fX1_findOrder_b33 (v5 : Int32) (l6 : Int32) (l7 : Int32) (w8 : Wd) : Option ((Int32 × Int32 × Wd) ⊕ (Int32 × Wd)) :=
  if v5 ≤ l7 then
    some (.inr (l6, w8))
  else
    gd_ (ib l7 6) <|
    lt_ (upI w8 37 (l7.toNatClampNeg) l7) fun (w10 : Wd) =>
    lt_ (l6 * (l7 + 1)) fun (v13 : Int32) =>
    lt_ (l7 + 1) fun (v14 : Int32) =>
    some (.inl (v13, v14, w10))
def fX1_findOrder_b67 (v5 : Int32) (l23 : Int32) (w24 : Wd) : Option ((Int32 × Wd) ⊕ (Wd)) :=
  if v5 ≤ l23 then
    some (.inr w24)
  else
    gd_ (ib l23 6) <|
    (fX2_copyOne 3 1 w24 l23 (w24.1 37 l23.toNatClampNeg)).bind fun (w27 : Wd) =>
    lt_ (l23 + 1) fun (v29 : Int32) =>
    some (.inl (v29, w27))
def fX1_findOrder_b59 (l17 : Int32) (v5 : Int32) (l20 : Int32) (w21 : Wd) : Option ((Int32 × Wd) ⊕ (Wd)) :=
  if l17 ≤ l20 then
    some (.inr w21)
  else
    (iter (fun s : Int32 × Wd => fX1_findOrder_b67 v5 s.1 s.2) FU (0, w21)).bind fun (w32 : Wd) =>
    (fX1_orderAsDigits w32 v5).bind fun (r34 : Int32) =>
    (fX1_countOf 3 w32).bind fun q37 => un2 q37 fun (r36 : Int32) (w35 : Wd) =>
    lt_ (fX1_consider w35 r34 r36) fun (w39 : Wd) =>
    (fX1_nextOrder w39 v5).bind fun (w41 : Wd) =>
    lt_ (l20 + 1) fun (v43 : Int32) =>
    some (.inl (v43, w41))
def fX1_findOrder (w : Wd) : Option (Wd) :=
  lt_ (fX1_startSearch w (-1)) fun (w1 : Wd) =>
  lt_ (fX2_takeFrom 3 1 w1) fun (w3 : Wd) =>
  lt_ (jmin (w3.1 1 0) 6) fun (v5 : Int32) =>
  (iter (fun s : Int32 × Int32 × Wd => fX1_findOrder_b33 v5 s.1 s.2.1 s.2.2) FU (1, 0, w3)).bind fun x16 => un2 x16 fun (l17 : Int32) (w18 : Wd) =>
  (iter (fun s : Int32 × Wd => fX1_findOrder_b59 l17 v5 s.1 s.2) FU (0, w18)).bind fun (w46 : Wd) =>
  some w46
def fX9_order_j37 (w1 : Wd) : Option (Int32 × Wd) :=
  (fX9_refuse w1 (-3)).bind fun q4 => un2 q4 fun (r3 : Int32) (w2 : Wd) =>
  some (r3, w2)
def fX9_order (w : Wd) (a1 : Int32) : Option (Int32 × Wd) :=
  if (fX9_isOutside a1 1) = 0 then
    if (w.1 1 0) = 0 then
      fX9_order_j37 w
    else
      if (w.1 1 0) ≤ 6 then
        (fX1_findOrder w).bind fun (w6 : Wd) =>
        if a1 = 0 then
          some (w6.1 10 0, w6)
        else
          some (w6.1 10 1, w6)
      else
        fX9_order_j37 w
  else
    (fX9_refuse w (-2)).bind fun q13 => un2 q13 fun (r12 : Int32) (w11 : Wd) =>
    some (r12, w11)
def fX2_becomeLantern (b : Nat) (w : Wd) (a1 : Int32) : Option (Wd) :=
  gd_ (ib a1 8) <|
  lt_ (upI w (9 + 4 * b) (a1.toNatClampNeg) 3) fun (w1 : Wd) =>
  lt_ (fX2_putLit b w1 a1 1) fun (w4 : Wd) =>
  some w4
def fX1_findLantern_b7 (l3 : Int32) (w4 : Wd) : Option ((Int32 × Wd) ⊕ (Wd)) :=
  if (w4.1 1 0) ≤ l3 then
    some (.inr w4)
  else
    lt_ (fX2_takeFrom 3 1 w4) fun (w6 : Wd) =>
    (fX2_becomeLantern 3 w6 l3).bind fun (w8 : Wd) =>
    (fX1_countOf 3 w8).bind fun q12 => un2 q12 fun (r11 : Int32) (w10 : Wd) =>
    lt_ (fX1_consider w10 l3 r11) fun (w14 : Wd) =>
    lt_ (l3 + 1) fun (v16 : Int32) =>
    some (.inl (v16, w14))
def fX1_findLantern (w : Wd) : Option (Wd) :=
  lt_ (fX1_startSearch w (-1)) fun (w1 : Wd) =>
  (iter (fun s : Int32 × Wd => fX1_findLantern_b7 s.1 s.2) FU (0, w1)).bind fun (w19 : Wd) =>
  some w19
def fX9_lantern (w : Wd) (a1 : Int32) : Option (Int32 × Wd) :=
  if (fX9_isOutside a1 1) = 0 then
    if (w.1 1 0) = 0 then
      (fX9_refuse w (-3)).bind fun q3 => un2 q3 fun (r2 : Int32) (w1 : Wd) =>
      some (r2, w1)
    else
      (fX1_findLantern w).bind fun (w5 : Wd) =>
      if a1 = 0 then
        some (w5.1 10 0, w5)
      else
        some (w5.1 10 1, w5)
  else
    (fX9_refuse w (-2)).bind fun q11 => un2 q11 fun (r10 : Int32) (w9 : Wd) =>
    some (r10, w9)
def fX1_lanternsDo_b13 (a1 : Int32) (l3 : Int32) (w4 : Wd) : Option ((Int32 × Wd) ⊕ (Wd)) :=
  if (w4.1 1 0) ≤ l3 then
    some (.inr w4)
  else
    if (fX9_hasBit a1 l3) = 0 then
      lt_ (l3 + 1) fun (v6 : Int32) =>
      some (.inl (v6, w4))
    else
      (fX2_becomeLantern 3 w4 l3).bind fun (w7 : Wd) =>
      lt_ (l3 + 1) fun (v9 : Int32) =>
      some (.inl (v9, w7))
def fX1_lanternsDo (w : Wd) (a1 : Int32) : Option (Int32 × Wd) :=
  lt_ (fX2_takeFrom 3 1 w) fun (w1 : Wd) =>
  (iter (fun s : Int32 × Wd => fX1_lanternsDo_b13 a1 s.1 s.2) FU (0, w1)).bind fun (w13 : Wd) =>
  (fX1_doorOf 3 w13).bind fun q17 => un2 q17 fun (r16 : Int32) (w15 : Wd) =>
  (fX2_grownOnes 3 w15).bind fun (r19 : Int32) =>
  if r16 = r19 then
    some (1, w15)
  else
    some (0, w15)
def fX1_fewestLanterns_b17 (v1 : Int32) (l2 : Int32) (l3 : Int32) (l4 : Int32) (w5 : Wd) : Option ((Int32 × Int32 × Int32 × Wd) ⊕ (Int32 × Wd)) :=
  if v1 < l4 then
    some (.inr (l2, w5))
  else
    lt_ (fJ6_bitCount_0f7a4 l4) fun (v7 : Int32) =>
    if l3 ≤ v7 then
      lt_ (l4 + 1) fun (v8 : Int32) =>
      some (.inl (l2, l3, v8, w5))
    else
      (fX1_lanternsDo w5 l4).bind fun q11 => un2 q11 fun (r10 : Int32) (w9 : Wd) =>
      if r10 = 0 then
        lt_ (l4 + 1) fun (v13 : Int32) =>
        some (.inl (l2, l3, v13, w9))
      else
        lt_ (l4 + 1) fun (v14 : Int32) =>
        some (.inl (l4, v7, v14, w9))
def fX1_fewestLanterns (w : Wd) : Option (Int32 × Wd) :=
  lt_ (fX2_everybody 1 w) fun (v1 : Int32) =>
  (iter (fun s : Int32 × Int32 × Int32 × Wd => fX1_fewestLanterns_b17 v1 s.1 s.2.1 s.2.2.1 s.2.2.2) FU ((-9), 9, 0, w)).bind fun x18 => un2 x18 fun (l19 : Int32) (w20 : Wd) =>
  some (l19, w20)
def fX9_numberOrSet (a0 : Int32) (a1 : Int32) : Int32 :=
  if (0 : Int32) ≤ a1 then
    if a0 = 0 then
      fJ6_bitCount_0f7a4 a1
    else
      a1
  else
    ((-9) : Int32)
def fX9_fewest (w : Wd) (a1 : Int32) : Option (Int32 × Wd) :=
  if (fX9_isOutside a1 1) = 0 then
    (fX1_fewestLanterns w).bind fun q3 => un2 q3 fun (r2 : Int32) (w1 : Wd) =>
    some (fX9_numberOrSet a1 r2, w1)
  else
    (fX9_refuse w (-2)).bind fun q7 => un2 q7 fun (r6 : Int32) (w5 : Wd) =>
    some (r6, w5)
def fX6_bestMatch_b25 (l8 : Int32) (l11 : Int32) (l12 : Int32) (l13 : Int32) (w14 : Wd) : Option ((Int32 × Int32 × Int32 × Wd) ⊕ (Int32 × Int32 × Wd)) :=
  if (w14.1 4 0) ≤ l13 then
    some (.inr (l11, l12, w14))
  else
    if (fX9_hasBit (w14.1 4 1) l13) = 0 then
      lt_ (l13 + 1) fun (v16 : Int32) =>
      some (.inl (l11, l12, v16, w14))
    else
      gd_ (ib l8 25) <|
      (fX8_atDoorFrom w14 l8 ((w14.1 26 l8.toNatClampNeg) ||| ((1 : Int32) <<< (l13 &&& 31)))).bind fun q20 => un2 q20 fun (r19 : Int32) (w18 : Wd) =>
      lt_ (fJ6_bitCount_0f7a4 r19) fun (v22 : Int32) =>
      if v22 ≤ l11 then
        lt_ (l13 + 1) fun (v23 : Int32) =>
        some (.inl (l11, l12, v23, w18))
      else
        lt_ ((10 * l8) + l13) fun (v24 : Int32) =>
        lt_ (l13 + 1) fun (v25 : Int32) =>
        some (.inl (v22, v24, v25, w18))
def fX6_bestMatch_b18 (l6 : Int32) (l7 : Int32) (l8 : Int32) (w9 : Wd) : Option ((Int32 × Int32 × Int32 × Wd) ⊕ (Int32 × Wd)) :=
  if l8 < 0 then
    some (.inr (l7, w9))
  else
    (iter (fun s : Int32 × Int32 × Int32 × Wd => fX6_bestMatch_b25 l8 s.1 s.2.1 s.2.2.1 s.2.2.2) FU (l6, l7, 0, w9)).bind fun x29 => un3 x29 fun (l30 : Int32) (l31 : Int32) (w32 : Wd) =>
    lt_ (l8 + (-1)) fun (v34 : Int32) =>
    some (.inl (l30, l31, v34, w32))
def fX6_bestMatch (w : Wd) : Option (Int32 × Wd) :=
  (fX6_startFromNow w).bind fun q3 => un2 q3 fun (r2 : Int32) (w1 : Wd) =>
  lt_ ((w1.1 4 4) - 1) fun (v5 : Int32) =>
  (iter (fun s : Int32 × Int32 × Int32 × Wd => fX6_bestMatch_b18 s.1 s.2.1 s.2.2.1 s.2.2.2) FU (r2, (-9), v5, w1)).bind fun x36 => un2 x36 fun (l37 : Int32) (w38 : Wd) =>
  some (l37, w38)
def fX9_match (w : Wd) : Option (Int32 × Wd) :=
  (fX6_bestMatch w).bind fun q3 => un2 q3 fun (r2 : Int32) (w1 : Wd) =>
  some (r2, w1)
def fX1_leftBehind_j99 (w19 : Wd) (l17 : Int32) (l18 : Int32) : Option ((Int32 × Int32 × Int32 × Int32 × Wd) ⊕ (Int32 × Wd)) :=
  lt_ (w19.1 3 0) fun (v20 : Int32) =>
  lt_ (l17 + 1) fun (v21 : Int32) =>
  some (.inl (l17, l18, v20, v21, w19))
def fX1_leftBehind_b9 (l1 : Int32) (l2 : Int32) (l3 : Int32) (l4 : Int32) (w5 : Wd) : Option ((Int32 × Int32 × Int32 × Int32 × Wd) ⊕ (Int32 × Wd)) :=
  if (w5.1 1 0) ≤ l4 then
    some (.inr (l1, w5))
  else
    lt_ (fX2_takeFrom 3 1 w5) fun (w7 : Wd) =>
    lt_ (upI w7 3 0 ((w7.1 1 0) - l4)) fun (w9 : Wd) =>
    lt_ (upI w9 3 1 ((w9.1 3 1) &&& (fX2_everybody 3 w9))) fun (w11 : Wd) =>
    (fX1_countOf 3 w11).bind fun q15 => un2 q15 fun (r14 : Int32) (w13 : Wd) =>
    if l4 = 0 then
      fX1_leftBehind_j99 w13 l4 r14
    else
      if (r14 * l3) ≤ (l2 * (w13.1 3 0)) then
        lt_ (l4 + 1) fun (v22 : Int32) =>
        some (.inl (l1, l2, l3, v22, w13))
      else
        fX1_leftBehind_j99 w13 l4 r14
def fX1_leftBehind (w : Wd) : Option (Int32 × Wd) :=
  (iter (fun s : Int32 × Int32 × Int32 × Int32 × Wd => fX1_leftBehind_b9 s.1 s.2.1 s.2.2.1 s.2.2.2.1 s.2.2.2.2) FU (0, 0, 1, 0, w)).bind fun x26 => un2 x26 fun (l27 : Int32) (w28 : Wd) =>
  some (l27, w28)
def fX9_tail (w : Wd) : Option (Int32 × Wd) :=
  if (w.1 1 0) = 0 then
    (fX9_refuse w (-3)).bind fun q3 => un2 q3 fun (r2 : Int32) (w1 : Wd) =>
    some (r2, w1)
  else
    (fX1_leftBehind w).bind fun q7 => un2 q7 fun (r6 : Int32) (w5 : Wd) =>
    some (r6, w5)
def fX6_tellsToStop_j85 (a2 : Int32) (w : Wd) : Option (Int32) :=
  if a2 = (w.1 4 1) then
    some (0 : Int32)
  else
    some (1 : Int32)
def fX6_tellsToStop_j57 (a1 : Int32) (a3 : Int32) (a2 : Int32) (w : Wd) : Option (Int32) :=
  if a1 = 4 then
    if (24 : Int32) ≤ a3 then
      some (0 : Int32)
    else
      gd_ (ib (a3 + 1) 25) <|
      if (5 : Int32) < (w.1 15 (a3 + 1).toNatClampNeg) then
        fX6_tellsToStop_j85 a2 w
      else
        some (0 : Int32)
  else
    fX6_tellsToStop_j85 a2 w
def fX6_tellsToStop (w : Wd) (a1 : Int32) (a2 : Int32) (a3 : Int32) : Option (Int32) :=
  if a1 = 0 then
    some (0 : Int32)
  else
    if a2 = 0 then
      some (0 : Int32)
    else
      if a1 = 1 then
        if (w.1 4 0) ≤ (2 * (fJ6_bitCount_0f7a4 a2)) then
          some (0 : Int32)
        else
          some (1 : Int32)
      else
        if a1 = 3 then
          gd_ (ib a3 25) <|
          if (w.1 15 a3.toNatClampNeg) ≤ 2 then
            fX6_tellsToStop_j57 a1 a3 a2 w
          else
            some (0 : Int32)
        else
          fX6_tellsToStop_j57 a1 a3 a2 w
def fX6_follow_b36 (a1 : Int32) (l5 : Int32) (l6 : Int32) (l7 : Int32) (l8 : Int32) (l9 : Int32) (w10 : Wd) : Option ((Int32 × Int32 × Int32 × Int32 × Int32 × Wd) ⊕ (Int32 × Int32 × Wd)) :=
  if (144 : Int32) ≤ l9 then
    some (.inr (l5, l8, w10))
  else
    if (w10.1 1 4) ≤ l6 then
      some (.inr (l5, l8, w10))
    else
      (if (5 : Int32) ≤ l7 then
        some (0 : Int32)
      else
        (fX6_tellsToStop w10 a1 l5 l6).bind fun (r15 : Int32) =>
        if r15 = 0 then
          some (0 : Int32)
        else
          some (1 : Int32) : Option Int32).bind fun (v14 : Int32) =>
      (fX8_minuteAt w10 l6 l5).bind fun q19 => un2 q19 fun (r18 : Int32) (w17 : Wd) =>
      lt_ (l8 + 1) fun (v21 : Int32) =>
      lt_ (if v14 = 0 then
        (0 : Int32)
      else
        l7 + 1 : Int32) fun (v22 : Int32) =>
      lt_ (if v14 = 0 then
        l6 + 1
      else
        l6 : Int32) fun (v23 : Int32) =>
      lt_ (l9 + 1) fun (v24 : Int32) =>
      some (.inl (r18, v23, v22, v21, v24, w17))
def fX6_follow_j125 (w34 : Wd) (l32 : Int32) (l33 : Int32) : Option (Wd) :=
  lt_ (upI w34 9 0 (fJ6_bitCount_0f7a4 l32)) fun (w35 : Wd) =>
  lt_ (upI w35 9 1 l33) fun (w37 : Wd) =>
  some w37
def fX6_follow (w : Wd) (a1 : Int32) : Option (Wd) :=
  (fX8_setOut 1 w).bind fun (w1 : Wd) =>
  lt_ (w1.1 1 1) fun (v3 : Int32) =>
  lt_ (w1.1 1 5) fun (v4 : Int32) =>
  (iter (fun s : Int32 × Int32 × Int32 × Int32 × Int32 × Wd => fX6_follow_b36 a1 s.1 s.2.1 s.2.2.1 s.2.2.2.1 s.2.2.2.2.1 s.2.2.2.2.2) FU (v3, v4, 0, 0, 0, w1)).bind fun x27 => un3 x27 fun (l28 : Int32) (l29 : Int32) (w30 : Wd) =>
  fX6_follow_j125 w30 l28 l29
def fX9_rule_j16 (w4 : Wd) : Option (Int32 × Wd) :=
  (fX9_refuse w4 (-2)).bind fun q7 => un2 q7 fun (r6 : Int32) (w5 : Wd) =>
  some (r6, w5)
def fX9_rule (w : Wd) (a1 : Int32) (a2 : Int32) : Option (Int32 × Wd) :=
  if (fX9_isOutside a1 4) = 0 then
    if (fX9_isOutside a2 1) = 0 then
      (fX6_follow w a1).bind fun (w1 : Wd) =>
      if a2 = 0 then
        some (w1.1 9 0, w1)
      else
        some (w1.1 9 1, w1)
    else
      fX9_rule_j16 w
  else
    fX9_rule_j16 w
def fX6_bestRule_j45 (w10 : Wd) (l9 : Int32) : Option ((Int32 × Int32 × Int32 × Int32 × Wd) ⊕ (Int32 × Wd)) :=
  lt_ (w10.1 9 0) fun (v11 : Int32) =>
  lt_ (w10.1 9 1) fun (v12 : Int32) =>
  lt_ (l9 + 1) fun (v13 : Int32) =>
  some (.inl (l9, v11, v12, v13, w10))
def fX6_bestRule_b9 (l1 : Int32) (l2 : Int32) (l3 : Int32) (l4 : Int32) (w5 : Wd) : Option ((Int32 × Int32 × Int32 × Int32 × Wd) ⊕ (Int32 × Wd)) :=
  if (4 : Int32) < l4 then
    some (.inr (l1, w5))
  else
    (fX6_follow w5 l4).bind fun (w7 : Wd) =>
    if l2 < (w7.1 9 0) then
      fX6_bestRule_j45 w7 l4
    else
      if (w7.1 9 0) = l2 then
        if l3 ≤ (w7.1 9 1) then
          lt_ (l4 + 1) fun (v14 : Int32) =>
          some (.inl (l1, l2, l3, v14, w7))
        else
          fX6_bestRule_j45 w7 l4
      else
        lt_ (l4 + 1) fun (v16 : Int32) =>
        some (.inl (l1, l2, l3, v16, w7))
def fX6_bestRule (w : Wd) : Option (Int32 × Wd) :=
  (iter (fun s : Int32 × Int32 × Int32 × Int32 × Wd => fX6_bestRule_b9 s.1 s.2.1 s.2.2.1 s.2.2.2.1 s.2.2.2.2) FU (0, (-1), 0, 0, w)).bind fun x20 => un2 x20 fun (l21 : Int32) (w22 : Wd) =>
  some (l21, w22)
def fX9_best (w : Wd) : Option (Int32 × Wd) :=
  (fX6_bestRule w).bind fun q3 => un2 q3 fun (r2 : Int32) (w1 : Wd) =>
  some (r2, w1)
def fX9_calm_j9 (w1 : Wd) : Option (Int32 × Wd) :=
  (fX9_refuse w1 (-4)).bind fun q4 => un2 q4 fun (r3 : Int32) (w2 : Wd) =>
  some (r3, w2)
def fX9_calm_j28 (w6 : Wd) : Option (Int32 × Wd) :=
  (fX9_refuse w6 (-6)).bind fun q9 => un2 q9 fun (r8 : Int32) (w7 : Wd) =>
  some (r8, w7)
def fX9_calm (w : Wd) (a1 : Int32) (a2 : Int32) : Option (Int32 × Wd) :=
  if a1 < 1 then
    fX9_calm_j9 w
  else
    if (0 : Int32) ≤ a2 then
      if (99 : Int32) < a1 then
        fX9_calm_j28 w
      else
        if a2 ≤ 99 then
          lt_ ((2 * a2) + 1) fun (v11 : Int32) =>
          gd_ (!(v11 == 0)) <|
          some (((a1 + v11) - 1) / v11, w)
        else
          fX9_calm_j28 w
    else
      fX9_calm_j9 w
def fX9_spreads_j9 (w1 : Wd) : Option (Int32 × Wd) :=
  (fX9_refuse w1 (-4)).bind fun q4 => un2 q4 fun (r3 : Int32) (w2 : Wd) =>
  some (r3, w2)
def fX9_spreads_j28 (w6 : Wd) : Option (Int32 × Wd) :=
  (fX9_refuse w6 (-6)).bind fun q9 => un2 q9 fun (r8 : Int32) (w7 : Wd) =>
  some (r8, w7)
def fX9_spreads (w : Wd) (a1 : Int32) (a2 : Int32) : Option (Int32 × Wd) :=
  if a1 < 1 then
    fX9_spreads_j9 w
  else
    if (0 : Int32) ≤ a2 then
      if (99 : Int32) < a1 then
        fX9_spreads_j28 w
      else
        if a2 ≤ 99 then
          if a2 < a1 then
            some (jmax a2 ((a1 - 1) - a2), w)
          else
            (fX9_refuse w (-1)).bind fun q13 => un2 q13 fun (r12 : Int32) (w11 : Wd) =>
            some (r12, w11)
        else
          fX9_spreads_j28 w
    else
      fX9_spreads_j9 w
def fX9_refuseLong (w : Wd) (a1 : Int32) : Option (Int64 × Wd) :=
  (fX9_refuse w a1).bind fun q3 => un2 q3 fun (r2 : Int32) (w1 : Wd) =>
  some (4000000000000000000 - (r2.toInt64), w1)
def fX0_fillTenths_j44 (w6 : Wd) (l4 : Int32) (l5 : Int32) : Option ((Int32 × Wd) ⊕ (Wd)) :=
  gd_ (ib l4 4) <|
  lt_ (upI w6 41 (l4.toNatClampNeg) (jmax 0 (jmin 9 l5))) fun (w7 : Wd) =>
  lt_ (l4 + 1) fun (v10 : Int32) =>
  some (.inl (v10, w7))
def fX0_fillTenths_b2 (b1 : Nat) (a2 : Int32) (l1 : Int32) (w2 : Wd) : Option ((Int32 × Wd) ⊕ (Wd)) :=
  if (4 : Int32) ≤ l1 then
    some (.inr w2)
  else
    if (fX2_hasOne b1 w2 l1) = 0 then
      fX0_fillTenths_j44 w2 l1 0
    else
      gd_ (ib l1 8) <|
      if (w2.1 (9 + 4 * b1) l1.toNatClampNeg) = 3 then
        fX0_fillTenths_j44 w2 l1 0
      else
        (fX2_feltBy b1 w2 l1 a2).bind fun (r12 : Int32) =>
        (fX2_holdsOf b1 w2 l1).bind fun (r13 : Int32) =>
        lt_ (r12 - (r13 - 2)) fun (v14 : Int32) =>
        fX0_fillTenths_j44 w2 l1 v14
def fX0_fillTenths (b1 : Nat) (w : Wd) (a2 : Int32) : Option (Wd) :=
  (iter (fun s : Int32 × Wd => fX0_fillTenths_b2 b1 a2 s.1 s.2) FU (0, w)).bind fun (w19 : Wd) =>
  some w19
def fX0_partsOf_b5 (a2 : Int32) (a1 : Int32) (w : Wd) (l1 : Int64) (l2 : Int32) : Option ((Int64 × Int32) ⊕ (Int64)) :=
  if (4 : Int32) ≤ l2 then
    some (.inr l1)
  else
    if (fX9_hasBit a2 l2) = 0 then
      (if (fX9_hasBit a1 l2) = 0 then
        some (10 : Int64)
      else
        gd_ (ib l2 4) <|
        some ((10 - (w.1 41 l2.toNatClampNeg)).toInt64) : Option Int64).bind fun (v5 : Int64) =>
      lt_ (l1 * v5) fun (v7 : Int64) =>
      lt_ (l2 + 1) fun (v8 : Int32) =>
      some (.inl (v7, v8))
    else
      gd_ (ib l2 4) <|
      lt_ (l1 * ((w.1 41 l2.toNatClampNeg).toInt64)) fun (v10 : Int64) =>
      lt_ (l2 + 1) fun (v11 : Int32) =>
      some (.inl (v10, v11))
def fX0_partsOf (w : Wd) (a1 : Int32) (a2 : Int32) : Option (Int64) :=
  (iter (fun s : Int64 × Int32 => fX0_partsOf_b5 a2 a1 w s.1 s.2) FU (1, 0)).bind fun (l15 : Int64) =>
  some l15
def fX0_passChances_b2 (l1 : Int32) (w2 : Wd) : Option ((Int32 × Wd) ⊕ (Wd)) :=
  if (16 : Int32) ≤ l1 then
    some (.inr w2)
  else
    gd_ (ib l1 16) <|
    lt_ (upJ w2 40 (l1.toNatClampNeg) 0) fun (w4 : Wd) =>
    lt_ (l1 + 1) fun (v7 : Int32) =>
    some (.inl (v7, w4))
def fX0_passChances_b31 (l12 : Int32) (l15 : Int32) (w16 : Wd) : Option ((Int32 × Wd) ⊕ (Wd)) :=
  if l12 < l15 then
    some (.inr w16)
  else
    gd_ (ib l12 16) <|
    if (lg_cmp (w16.2 39 l12.toNatClampNeg) 0) = 0 then
      lt_ (l15 + 1) fun (v19 : Int32) =>
      some (.inl (v19, w16))
    else
      if (l15 &&& (l12 ^^^ (-1))) = 0 then
        (fX8_relight w16 (l12 &&& (l15 ^^^ (-1)))).bind fun q22 => un2 q22 fun (r21 : Int32) (w20 : Wd) =>
        lt_ (r21 &&& 15) fun (v24 : Int32) =>
        gd_ (ib v24 16) <|
        (fX0_partsOf w20 l12 l15).bind fun (r26 : Int64) =>
        lt_ (upJ w20 40 (v24.toNatClampNeg) ((w20.2 40 v24.toNatClampNeg) + ((w20.2 39 l12.toNatClampNeg) * r26))) fun (w27 : Wd) =>
        lt_ (l15 + 1) fun (v29 : Int32) =>
        some (.inl (v29, w27))
      else
        lt_ (l15 + 1) fun (v30 : Int32) =>
        some (.inl (v30, w16))
def fX0_passChances_b23 (l12 : Int32) (w13 : Wd) : Option ((Int32 × Wd) ⊕ (Wd)) :=
  if (16 : Int32) ≤ l12 then
    some (.inr w13)
  else
    (iter (fun s : Int32 × Wd => fX0_passChances_b31 l12 s.1 s.2) FU (0, w13)).bind fun (w35 : Wd) =>
    lt_ (l12 + 1) fun (v37 : Int32) =>
    some (.inl (v37, w35))
def fX0_passChances (w : Wd) : Option (Wd) :=
  (iter (fun s : Int32 × Wd => fX0_passChances_b2 s.1 s.2) FU (0, w)).bind fun (w10 : Wd) =>
  (iter (fun s : Int32 × Wd => fX0_passChances_b23 s.1 s.2) FU (0, w10)).bind fun (w40 : Wd) =>
  lt_ (upB w40 39 (va_cpy (w40.2 40) (w40.2 39) 0 0 16)) fun (w42 : Wd) =>
  some w42
def fX0_weigh_b10 (b1 : Nat) (l3 : Int32) (w4 : Wd) : Option ((Int32 × Wd) ⊕ (Wd)) :=
  if (16 : Int32) ≤ l3 then
    some (.inr w4)
  else
    lt_ (if l3 = (w4.1 b1 1) then
      (1 : Int64)
    else
      (0 : Int64) : Int64) fun (v6 : Int64) =>
    gd_ (ib l3 16) <|
    lt_ (upJ w4 39 (l3.toNatClampNeg) v6) fun (w7 : Wd) =>
    lt_ (l3 + 1) fun (v10 : Int32) =>
    some (.inl (v10, w7))
def fX0_weigh_b48 (a2 : Int32) (b1 : Nat) (l17 : Int32) (w18 : Wd) : Option ((Int32 × Wd) ⊕ (Wd)) :=
  if a2 ≤ l17 then
    some (.inr w18)
  else
    (fX0_fillTenths b1 w18 ((w18.1 b1 5) + l17)).bind fun (w20 : Wd) =>
    (fX0_passChances w20).bind fun (w22 : Wd) =>
    lt_ (upJ w22 11 0 ((w22.2 11 0) * 10000)) fun (w24 : Wd) =>
    lt_ (l17 + 1) fun (v26 : Int32) =>
    some (.inl (v26, w24))
def fX0_weigh (b1 : Nat) (w : Wd) (a2 : Int32) : Option (Wd) :=
  (fX8_setOut b1 w).bind fun (w1 : Wd) =>
  (iter (fun s : Int32 × Wd => fX0_weigh_b10 b1 s.1 s.2) FU (0, w1)).bind fun (w13 : Wd) =>
  lt_ (upJ w13 11 0 1) fun (w15 : Wd) =>
  (iter (fun s : Int32 × Wd => fX0_weigh_b48 a2 b1 s.1 s.2) FU (0, w15)).bind fun (w29 : Wd) =>
  some w29
def fX0_greatestCommon_b9 (l1 : Int64) (l2 : Int64) (l3 : Int32) : Option ((Int64 × Int64 × Int32) ⊕ (Int64)) :=
  if (200 : Int32) ≤ l3 then
    some (.inr l1)
  else
    if (lg_cmp l2 0) = 0 then
      some (.inr l1)
    else
      gd_ (!(l2 == 0)) <|
      lt_ (jremL l1 l2) fun (v7 : Int64) =>
      lt_ (l3 + 1) fun (v8 : Int32) =>
      some (.inl (l2, v7, v8))
def fX0_greatestCommon (a0 : Int64) (a2 : Int64) : Option (Int64) :=
  (iter (fun s : Int64 × Int64 × Int32 => fX0_greatestCommon_b9 s.1 s.2.1 s.2.2) FU (a0, a2, 0)).bind fun (l12 : Int64) =>
  some l12
def fX0_inLeastTerms_b5 (a1 : Int32) (w : Wd) (l1 : Int64) (l2 : Int32) : Option ((Int64 × Int32) ⊕ (Int64)) :=
  if (16 : Int32) ≤ l2 then
    some (.inr l1)
  else
    (if a1 = 0 then
      gd_ (ib l2 16) <|
      some (w.2 39 l2.toNatClampNeg)
    else
      gd_ (ib l2 16) <|
      some ((w.2 39 l2.toNatClampNeg) * ((fJ6_bitCount_0f7a4 l2).toInt64)) : Option Int64).bind fun (v5 : Int64) =>
    lt_ (l1 + v5) fun (v8 : Int64) =>
    lt_ (l2 + 1) fun (v9 : Int32) =>
    some (.inl (v8, v9))
def fX0_inLeastTerms (w : Wd) (a1 : Int32) (a2 : Int32) : Option (Int64) :=
  (iter (fun s : Int64 × Int32 => fX0_inLeastTerms_b5 a1 w s.1 s.2) FU (0, 1)).bind fun (l12 : Int64) =>
  (fX0_greatestCommon (w.2 11 0) l12).bind fun (r13 : Int64) =>
  lt_ (if a2 = 0 then
    l12
  else
    w.2 11 0 : Int64) fun (v14 : Int64) =>
  gd_ (!((jmaxL 1 r13) == 0)) <|
  some (v14 / (jmaxL 1 r13))
def fX9_chances_j76 (w1 : Wd) : Option (Int64 × Wd) :=
  (fX9_refuseLong w1 (-3)).bind fun q4 => un2 q4 fun (r3 : Int64) (w2 : Wd) =>
  some (r3, w2)
def fX9_chances_j119 (w11 : Wd) (l9 : Int32) (l10 : Int32) : Option (Int64 × Wd) :=
  (fX0_inLeastTerms w11 l9 l10).bind fun (r12 : Int64) =>
  some (r12, w11)
def fX9_chances_j39 (w16 : Wd) : Option (Int64 × Wd) :=
  (fX9_refuseLong w16 (-2)).bind fun q19 => un2 q19 fun (r18 : Int64) (w17 : Wd) =>
  some (r18, w17)
def fX9_chances (w : Wd) (a1 : Int32) (a2 : Int32) (a3 : Int32) : Option (Int64 × Wd) :=
  if (0 : Int32) ≤ a1 then
    if a1 ≤ 3 then
      if (fX9_isOutside a2 1) = 0 then
        if (fX9_isOutside a3 1) = 0 then
          if (4 : Int32) < (w.1 1 0) then
            fX9_chances_j76 w
          else
            if a1 ≤ ((w.1 1 4) - (w.1 1 5)) then
              (fX0_weigh 1 w a1).bind fun (w6 : Wd) =>
              lt_ (if a2 = 1 then
                (1 : Int32)
              else
                (0 : Int32) : Int32) fun (v8 : Int32) =>
              if a3 = 1 then
                fX9_chances_j119 w6 v8 1
              else
                fX9_chances_j119 w6 v8 0
            else
              fX9_chances_j76 w
        else
          fX9_chances_j39 w
      else
        fX9_chances_j39 w
    else
      (fX9_refuseLong w (-6)).bind fun q25 => un2 q25 fun (r24 : Int64) (w23 : Wd) =>
      some (r24, w23)
  else
    (fX9_refuseLong w (-4)).bind fun q30 => un2 q30 fun (r29 : Int64) (w28 : Wd) =>
    some (r29, w28)
def fX4_agrees_b10 (w1 : Wd) (l3 : Int32) : Option ((Int32) ⊕ (Int32 × Wd)) :=
  if (w1.1 4 0) ≤ l3 then
    some (.inr (1, w1))
  else
    (fX4_darkEnds w1 l3).bind fun (r4 : Int32) =>
    gd_ (ib l3 12) <|
    if r4 = (w1.1 34 l3.toNatClampNeg) then
      lt_ (l3 + 1) fun (v6 : Int32) =>
      some (.inl v6)
    else
      some (.inr (0, w1))
def fX4_agrees (w : Wd) (a1 : Int32) : Option (Int32 × Wd) :=
  (fX8_walkOn w a1).bind fun (w1 : Wd) =>
  iter (fun s : Int32 => fX4_agrees_b10 w1 s) FU (0 : Int32)
def fX4_findWaxSets_j70 (w18 : Wd) (l17 : Int32) : Option ((Int32 × Wd) ⊕ (Wd)) :=
  lt_ (upI w18 8 0 ((w18.1 8 0) + 1)) fun (w19 : Wd) =>
  lt_ (l17 + 1) fun (v21 : Int32) =>
  some (.inl (v21, w19))
def fX4_findWaxSets_b24 (l7 : Int32) (w8 : Wd) : Option ((Int32 × Wd) ⊕ (Wd)) :=
  if (w8.1 4 1) < l7 then
    some (.inr w8)
  else
    if (l7 &&& ((w8.1 4 1) ^^^ (-1))) = 0 then
      (fX4_agrees w8 l7).bind fun q12 => un2 q12 fun (r11 : Int32) (w10 : Wd) =>
      if r11 = 0 then
        lt_ (l7 + 1) fun (v14 : Int32) =>
        some (.inl (v14, w10))
      else
        if (w10.1 8 0) = 0 then
          lt_ (upI w10 8 1 l7) fun (w15 : Wd) =>
          fX4_findWaxSets_j70 w15 l7
        else
          fX4_findWaxSets_j70 w10 l7
    else
      lt_ (l7 + 1) fun (v24 : Int32) =>
      some (.inl (v24, w8))
def fX4_findWaxSets (w : Wd) : Option (Wd) :=
  (fX8_setOut 1 w).bind fun (w1 : Wd) =>
  lt_ (upI w1 8 0 0) fun (w3 : Wd) =>
  lt_ (upI w3 8 1 (-9)) fun (w5 : Wd) =>
  (iter (fun s : Int32 × Wd => fX4_findWaxSets_b24 s.1 s.2) FU (0, w5)).bind fun (w28 : Wd) =>
  some w28
def fX9_wax (w : Wd) (a1 : Int32) : Option (Int32 × Wd) :=
  if (fX9_isOutside a1 1) = 0 then
    if (w.1 7 0) = (w.1 1 0) then
      (fX4_findWaxSets w).bind fun (w1 : Wd) =>
      if a1 = 0 then
        some (w1.1 8 0, w1)
      else
        some (w1.1 8 1, w1)
    else
      (fX9_refuse w (-3)).bind fun q6 => un2 q6 fun (r5 : Int32) (w4 : Wd) =>
      some (r5, w4)
  else
    (fX9_refuse w (-2)).bind fun q11 => un2 q11 fun (r10 : Int32) (w9 : Wd) =>
    some (r10, w9)
def fX2_blowFrom_b2 (b : Nat) (a1 : Int32) (l1 : Int32) (w2 : Wd) : Option ((Int32 × Wd) ⊕ (Wd)) :=
  if (24 : Int32) < l1 then
    some (.inr w2)
  else
    gd_ (ib l1 25) <|
    lt_ (upI w2 (12 + 4 * b) (l1.toNatClampNeg) a1) fun (w4 : Wd) =>
    lt_ (l1 + 1) fun (v7 : Int32) =>
    some (.inl (v7, w4))
def fX2_blowFrom (b : Nat) (w : Wd) (a1 : Int32) : Option (Wd) :=
  (iter (fun s : Int32 × Wd => fX2_blowFrom_b2 b a1 s.1 s.2) FU (0, w)).bind fun (w10 : Wd) =>
  some w10
def fX1_bestSide_b7 (l3 : Int32) (w4 : Wd) : Option ((Int32 × Wd) ⊕ (Wd)) :=
  if (2 : Int32) < l3 then
    some (.inr w4)
  else
    lt_ (fX2_takeFrom 3 1 w4) fun (w6 : Wd) =>
    (fX2_blowFrom 3 w6 l3).bind fun (w8 : Wd) =>
    (fX1_countOf 3 w8).bind fun q12 => un2 q12 fun (r11 : Int32) (w10 : Wd) =>
    lt_ (fX1_consider w10 l3 r11) fun (w14 : Wd) =>
    lt_ (l3 + 1) fun (v16 : Int32) =>
    some (.inl (v16, w14))
def fX1_bestSide (w : Wd) : Option (Int32 × Wd) :=
  lt_ (fX1_startSearch w (-1)) fun (w1 : Wd) =>
  (iter (fun s : Int32 × Wd => fX1_bestSide_b7 s.1 s.2) FU (0, w1)).bind fun (w19 : Wd) =>
  some (w19.1 10 0, w19)
def fX9_sides (w : Wd) : Option (Int32 × Wd) :=
  (fX1_bestSide w).bind fun q3 => un2 q3 fun (r2 : Int32) (w1 : Wd) =>
  some (r2, w1)
def fX7_isFull (w : Wd) : Int32 :=
  if (w.1 7 0) < 12 then
    (0 : Int32)
  else
    (1 : Int32)
def fX7_append (w : Wd) (a1 : Int32) : Option (Int32 × Wd) :=
  if (fX7_isFull w) = 0 then
    gd_ (ib (w.1 7 0) 12) <|
    lt_ (upI w 34 ((w.1 7 0).toNatClampNeg) a1) fun (w1 : Wd) =>
    lt_ (upI w1 7 0 ((w1.1 7 0) + 1)) fun (w4 : Wd) =>
    some (w4.1 7 0, w4)
  else
    some (w.1 7 0, w)
def fX9_row_j27 (w1 : Wd) : Option (Int32 × Wd) :=
  (fX9_refuse w1 (-6)).bind fun q4 => un2 q4 fun (r3 : Int32) (w2 : Wd) =>
  some (r3, w2)
def fX9_row (w : Wd) (a1 : Int32) : Option (Int32 × Wd) :=
  if (0 : Int32) ≤ a1 then
    if (99 : Int32) < a1 then
      fX9_row_j27 w
    else
      if (fX7_isFull w) = 0 then
        (fX7_append w a1).bind fun q8 => un2 q8 fun (r7 : Int32) (w6 : Wd) =>
        some (r7, w6)
      else
        fX9_row_j27 w
  else
    (fX9_refuse w (-4)).bind fun q14 => un2 q14 fun (r13 : Int32) (w12 : Wd) =>
    some (r13, w12)
def fX4_firstUntrue_b6 (w1 : Wd) (l3 : Int32) : Option ((Int32) ⊕ (Int32 × Wd)) :=
  if (w1.1 7 0) ≤ l3 then
    some (.inr ((-9), w1))
  else
    if (w1.1 4 4) ≤ l3 then
      some (.inr (l3, w1))
    else
      gd_ (ib (l3 + 1) 25) <|
      gd_ (ib l3 12) <|
      if (fJ6_bitCount_0f7a4 (w1.1 26 (l3 + 1).toNatClampNeg)) = (w1.1 34 l3.toNatClampNeg) then
        lt_ (l3 + 1) fun (v6 : Int32) =>
        some (.inl v6)
      else
        some (.inr (l3, w1))
def fX4_firstUntrue (w : Wd) : Option (Int32 × Wd) :=
  (fX4_walkFromNow w).bind fun (w1 : Wd) =>
  iter (fun s : Int32 => fX4_firstUntrue_b6 w1 s) FU (0 : Int32)
def fX9_judge (w : Wd) : Option (Int32 × Wd) :=
  (fX4_firstUntrue w).bind fun q3 => un2 q3 fun (r2 : Int32) (w1 : Wd) =>
  lt_ (upI w1 7 0 0) fun (w5 : Wd) =>
  some (r2, w5)
def fX9_clear (w : Wd) : Int32 × Wd :=
  lt_ (w.1 7 0) fun (v1 : Int32) =>
  lt_ (upI w 7 0 0) fun (w2 : Wd) =>
  (v1, w2)
def fX1_drawBelow (w : Wd) (a1 : Int32) : Option (Int32 × Wd) :=
  lt_ (upI w 10 4 (((w.1 10 4) * 1103515245) + 12345)) fun (w1 : Wd) =>
  if a1 ≤ 0 then
    some (0, w1)
  else
    gd_ (!(a1 == 0)) <|
    some (jrem (((w1.1 10 4) &&& 2147483647) / 65536) a1, w1)
def fX1_walkNights_b42 (l13 : Int32) (w14 : Wd) : Option ((Int32 × Wd) ⊕ (Wd)) :=
  if (24 : Int32) < l13 then
    some (.inr w14)
  else
    (fX1_drawBelow w14 10).bind fun q18 => un2 q18 fun (r17 : Int32) (w16 : Wd) =>
    gd_ (ib l13 25) <|
    lt_ (upI w16 23 (l13.toNatClampNeg) r17) fun (w20 : Wd) =>
    (fX1_drawBelow w20 3).bind fun q25 => un2 q25 fun (r24 : Int32) (w23 : Wd) =>
    lt_ (upI w23 24 (l13.toNatClampNeg) r24) fun (w27 : Wd) =>
    lt_ (l13 + 1) fun (v29 : Int32) =>
    some (.inl (v29, w27))
def fX1_walkNights_b28 (a1 : Int32) (l9 : Int32) (w10 : Wd) : Option ((Int32 × Wd) ⊕ (Wd)) :=
  if a1 ≤ l9 then
    some (.inr w10)
  else
    lt_ (w10.1 1 5) fun (v12 : Int32) =>
    (iter (fun s : Int32 × Wd => fX1_walkNights_b42 s.1 s.2) FU (v12, w10)).bind fun (w32 : Wd) =>
    (fX1_countOf 3 w32).bind fun q36 => un2 q36 fun (r35 : Int32) (w34 : Wd) =>
    lt_ (upI w34 10 2 ((w34.1 10 2) + r35)) fun (w38 : Wd) =>
    lt_ (if r35 = 0 then
      (1 : Int32)
    else
      (0 : Int32) : Int32) fun (v40 : Int32) =>
    lt_ (upI w38 10 3 ((w38.1 10 3) + v40)) fun (w41 : Wd) =>
    lt_ (l9 + 1) fun (v43 : Int32) =>
    some (.inl (v43, w41))
def fX1_walkNights (w : Wd) (a1 : Int32) (a2 : Int32) : Option (Wd) :=
  lt_ (upI w 10 4 a2) fun (w1 : Wd) =>
  lt_ (upI w1 10 2 0) fun (w3 : Wd) =>
  lt_ (upI w3 10 3 0) fun (w5 : Wd) =>
  lt_ (fX2_takeFrom 3 1 w5) fun (w7 : Wd) =>
  (iter (fun s : Int32 × Wd => fX1_walkNights_b28 a1 s.1 s.2) FU (0, w7)).bind fun (w46 : Wd) =>
  some w46
def fX9_seeds (w : Wd) (a1 : Int32) (a2 : Int32) (a3 : Int32) : Option (Int32 × Wd) :=
  if (1 : Int32) ≤ a1 then
    if a1 ≤ 20 then
      if (fX9_isOutside a3 1) = 0 then
        (fX1_walkNights w a1 a2).bind fun (w1 : Wd) =>
        if a3 = 0 then
          some (w1.1 10 2, w1)
        else
          some (w1.1 10 3, w1)
      else
        (fX9_refuse w (-2)).bind fun q6 => un2 q6 fun (r5 : Int32) (w4 : Wd) =>
        some (r5, w4)
    else
      (fX9_refuse w (-6)).bind fun q11 => un2 q11 fun (r10 : Int32) (w9 : Wd) =>
      some (r10, w9)
  else
    (fX9_refuse w (-4)).bind fun q16 => un2 q16 fun (r15 : Int32) (w14 : Wd) =>
    some (r15, w14)
def fX5_takeBack (b1 : Nat) (w : Wd) : Option (Wd) :=
  if (w.1 5 0) ≤ 0 then
    some w
  else
    lt_ (upI w 5 0 ((w.1 5 0) - 1)) fun (w1 : Wd) =>
    gd_ (ib (w1.1 5 0) 8) <|
    lt_ (upI w1 b1 1 (w1.1 30 (w1.1 5 0).toNatClampNeg)) fun (w4 : Wd) =>
    gd_ (ib (w4.1 5 0) 8) <|
    lt_ (upI w4 b1 5 (w4.1 31 (w4.1 5 0).toNatClampNeg)) fun (w7 : Wd) =>
    gd_ (ib (w7.1 5 0) 8) <|
    lt_ (upI w7 b1 6 (w7.1 32 (w7.1 5 0).toNatClampNeg)) fun (w10 : Wd) =>
    some w10
def fX9_back (w : Wd) : Option (Int32 × Wd) :=
  if (w.1 5 0) = 0 then
    (fX9_refuse w (-3)).bind fun q3 => un2 q3 fun (r2 : Int32) (w1 : Wd) =>
    some (r2, w1)
  else
    (fX5_takeBack 1 w).bind fun (w5 : Wd) =>
    some (w5.1 1 5, w5)
def fX4_calmMinutes_b21 (l4 : Int32) (l5 : Int32) (w6 : Wd) : Option ((Int32 × Int32 × Wd) ⊕ (Int32 × Wd)) :=
  if (60 : Int32) < l5 then
    some (.inr ((-9), w6))
  else
    if l4 = (w6.1 4 1) then
      some (.inr (l5, w6))
    else
      (fX8_relight w6 l4).bind fun q9 => un2 q9 fun (r8 : Int32) (w7 : Wd) =>
      lt_ (l5 + 1) fun (v11 : Int32) =>
      some (.inl (r8, v11, w7))
def fX4_calmMinutes (w : Wd) : Option (Int32 × Wd) :=
  (fX8_setOut 1 w).bind fun (w1 : Wd) =>
  lt_ (w1.1 1 1) fun (v3 : Int32) =>
  iter (fun s : Int32 × Int32 × Wd => fX4_calmMinutes_b21 s.1 s.2.1 s.2.2) FU (v3, 0, w1)
def fX9_all (w : Wd) : Option (Int32 × Wd) :=
  (fX4_calmMinutes w).bind fun q3 => un2 q3 fun (r2 : Int32) (w1 : Wd) =>
  some (r2, w1)
def fX4_calmBehind_b21 (a1 : Int32) (l4 : Int32) (l5 : Int32) (w6 : Wd) : Option ((Int32 × Int32 × Wd) ⊕ (Int32 × Wd)) :=
  if a1 ≤ l5 then
    some (.inr (l4, w6))
  else
    (fX8_relight w6 l4).bind fun q10 => un2 q10 fun (r9 : Int32) (w8 : Wd) =>
    lt_ (l5 + 1) fun (v12 : Int32) =>
    some (.inl (r9, v12, w8))
def fX4_calmBehind (w : Wd) (a1 : Int32) : Option (Int32 × Wd) :=
  (fX8_setOut 1 w).bind fun (w1 : Wd) =>
  lt_ (w1.1 1 1) fun (v3 : Int32) =>
  (iter (fun s : Int32 × Int32 × Wd => fX4_calmBehind_b21 a1 s.1 s.2.1 s.2.2) FU (v3, 0, w1)).bind fun x14 => un2 x14 fun (l15 : Int32) (w16 : Wd) =>
  some (l15, w16)
def fX9_behind (w : Wd) (a1 : Int32) : Option (Int32 × Wd) :=
  if (0 : Int32) ≤ a1 then
    if a1 ≤ 60 then
      (fX4_calmBehind w a1).bind fun q3 => un2 q3 fun (r2 : Int32) (w1 : Wd) =>
      some (r2, w1)
    else
      (fX9_refuse w (-6)).bind fun q7 => un2 q7 fun (r6 : Int32) (w5 : Wd) =>
      some (r6, w5)
  else
    (fX9_refuse w (-4)).bind fun q12 => un2 q12 fun (r11 : Int32) (w10 : Wd) =>
    some (r11, w10)
def fX4_enoughAtFirst_b19 (l3 : Int32) (l4 : Int32) (l5 : Int32) (w6 : Wd) : Option ((Int32 × Int32 × Int32 × Wd) ⊕ (Int32 × Wd)) :=
  if (w6.1 4 1) < l5 then
    some (.inr (l3, w6))
  else
    lt_ (fJ6_bitCount_0f7a4 l5) fun (v8 : Int32) =>
    if l4 ≤ v8 then
      lt_ (l5 + 1) fun (v9 : Int32) =>
      some (.inl (l3, l4, v9, w6))
    else
      if (l5 &&& ((w6.1 4 1) ^^^ (-1))) = 0 then
        (fX8_atDoorFrom w6 0 l5).bind fun q12 => un2 q12 fun (r11 : Int32) (w10 : Wd) =>
        if r11 = (w10.1 4 1) then
          lt_ (l5 + 1) fun (v14 : Int32) =>
          some (.inl (l5, v8, v14, w10))
        else
          lt_ (l5 + 1) fun (v15 : Int32) =>
          some (.inl (l3, l4, v15, w10))
      else
        lt_ (l5 + 1) fun (v17 : Int32) =>
        some (.inl (l3, l4, v17, w6))
def fX4_enoughAtFirst (w : Wd) : Option (Int32 × Wd) :=
  (fX8_setOut 1 w).bind fun (w1 : Wd) =>
  (iter (fun s : Int32 × Int32 × Int32 × Wd => fX4_enoughAtFirst_b19 s.1 s.2.1 s.2.2.1 s.2.2.2) FU ((-9), 9, 0, w1)).bind fun x21 => un2 x21 fun (l22 : Int32) (w23 : Wd) =>
  some (l22, w23)
def fX9_atFirst (w : Wd) (a1 : Int32) : Option (Int32 × Wd) :=
  if (fX9_isOutside a1 1) = 0 then
    (fX4_enoughAtFirst w).bind fun q3 => un2 q3 fun (r2 : Int32) (w1 : Wd) =>
    some (fX9_numberOrSet a1 r2, w1)
  else
    (fX9_refuse w (-2)).bind fun q7 => un2 q7 fun (r6 : Int32) (w5 : Wd) =>
    some (r6, w5)
def fX1_findForm_b25 (l5 : Int32) (l8 : Int32) (w9 : Wd) : Option ((Int32 × Wd) ⊕ (Wd)) :=
  if (2 : Int32) < l8 then
    some (.inr w9)
  else
    lt_ (upI w9 3 2 l5) fun (w11 : Wd) =>
    lt_ (upI w11 3 3 l8) fun (w13 : Wd) =>
    (fX1_countOf 3 w13).bind fun q17 => un2 q17 fun (r16 : Int32) (w15 : Wd) =>
    lt_ (fX1_consider w15 ((10 * l5) + l8) r16) fun (w19 : Wd) =>
    lt_ (l8 + 1) fun (v21 : Int32) =>
    some (.inl (v21, w19))
def fX1_findForm_b18 (l5 : Int32) (w6 : Wd) : Option ((Int32 × Wd) ⊕ (Wd)) :=
  if (2 : Int32) < l5 then
    some (.inr w6)
  else
    (iter (fun s : Int32 × Wd => fX1_findForm_b25 l5 s.1 s.2) FU (1, w6)).bind fun (w24 : Wd) =>
    lt_ (l5 + 1) fun (v26 : Int32) =>
    some (.inl (v26, w24))
def fX1_findForm (w : Wd) : Option (Wd) :=
  lt_ (fX1_startSearch w (-1)) fun (w1 : Wd) =>
  lt_ (fX2_takeFrom 3 1 w1) fun (w3 : Wd) =>
  (iter (fun s : Int32 × Wd => fX1_findForm_b18 s.1 s.2) FU (0, w3)).bind fun (w29 : Wd) =>
  some w29
def fX9_forms (w : Wd) (a1 : Int32) : Option (Int32 × Wd) :=
  if (fX9_isOutside a1 1) = 0 then
    (fX1_findForm w).bind fun (w1 : Wd) =>
    if a1 = 0 then
      some (w1.1 10 0, w1)
    else
      some (w1.1 10 1, w1)
  else
    (fX9_refuse w (-2)).bind fun q6 => un2 q6 fun (r5 : Int32) (w4 : Wd) =>
    some (r5, w4)
def fX6_stillAt (w : Wd) (a1 : Int32) : Option (Int32 × Wd) :=
  gd_ (ib a1 25) <|
  lt_ (w.1 27 a1.toNatClampNeg) fun (v2 : Int32) =>
  lt_ (upI w 27 (a1.toNatClampNeg) 0) fun (w3 : Wd) =>
  some (v2, w3)
def fX6_calmPlace_b16 (l6 : Int32) (l7 : Int32) (l8 : Int32) (w9 : Wd) : Option ((Int32 × Int32 × Int32 × Wd) ⊕ (Int32 × Wd)) :=
  if (w9.1 1 4) ≤ l8 then
    some (.inr (l7, w9))
  else
    (fX6_stillAt w9 l8).bind fun q13 => un2 q13 fun (r12 : Int32) (w11 : Wd) =>
    (fX8_atDoorFrom w11 0 (w11.1 1 1)).bind fun q17 => un2 q17 fun (r16 : Int32) (w15 : Wd) =>
    lt_ (fJ6_bitCount_0f7a4 r16) fun (v19 : Int32) =>
    gd_ (ib l8 25) <|
    lt_ (upI w15 27 (l8.toNatClampNeg) r12) fun (w20 : Wd) =>
    if v19 ≤ l6 then
      lt_ (l8 + 1) fun (v23 : Int32) =>
      some (.inl (l6, l7, v23, w20))
    else
      lt_ (l8 + 1) fun (v24 : Int32) =>
      some (.inl (v19, l8, v24, w20))
def fX6_calmPlace (w : Wd) : Option (Int32 × Wd) :=
  (fX6_startFromNow w).bind fun q3 => un2 q3 fun (r2 : Int32) (w1 : Wd) =>
  lt_ (w1.1 1 5) fun (v5 : Int32) =>
  (iter (fun s : Int32 × Int32 × Int32 × Wd => fX6_calmPlace_b16 s.1 s.2.1 s.2.2.1 s.2.2.2) FU (r2, (-9), v5, w1)).bind fun x27 => un2 x27 fun (l28 : Int32) (w29 : Wd) =>
  some (l28, w29)
def fX6_calmPair_b39 (l8 : Int32) (l16 : Int32) (l17 : Int32) (l18 : Int32) (w19 : Wd) : Option ((Int32 × Int32 × Int32 × Wd) ⊕ (Int32 × Int32 × Wd)) :=
  if (w19.1 1 4) ≤ l18 then
    some (.inr (l16, l17, w19))
  else
    (fX6_stillAt w19 l18).bind fun q23 => un2 q23 fun (r22 : Int32) (w21 : Wd) =>
    (fX8_atDoorFrom w21 0 (w21.1 1 1)).bind fun q27 => un2 q27 fun (r26 : Int32) (w25 : Wd) =>
    lt_ (fJ6_bitCount_0f7a4 r26) fun (v29 : Int32) =>
    gd_ (ib l18 25) <|
    lt_ (upI w25 27 (l18.toNatClampNeg) r22) fun (w30 : Wd) =>
    if v29 ≤ l16 then
      lt_ (l18 + 1) fun (v33 : Int32) =>
      some (.inl (l16, l17, v33, w30))
    else
      lt_ ((100 * l8) + l18) fun (v34 : Int32) =>
      lt_ (l18 + 1) fun (v35 : Int32) =>
      some (.inl (v29, v34, v35, w30))
def fX6_calmPair_b16 (l6 : Int32) (l7 : Int32) (l8 : Int32) (w9 : Wd) : Option ((Int32 × Int32 × Int32 × Wd) ⊕ (Int32 × Wd)) :=
  if (w9.1 1 4) ≤ l8 then
    some (.inr (l7, w9))
  else
    (fX6_stillAt w9 l8).bind fun q13 => un2 q13 fun (r12 : Int32) (w11 : Wd) =>
    lt_ (l8 + 1) fun (v15 : Int32) =>
    (iter (fun s : Int32 × Int32 × Int32 × Wd => fX6_calmPair_b39 l8 s.1 s.2.1 s.2.2.1 s.2.2.2) FU (l6, l7, v15, w11)).bind fun x38 => un3 x38 fun (l39 : Int32) (l40 : Int32) (w41 : Wd) =>
    gd_ (ib l8 25) <|
    lt_ (upI w41 27 (l8.toNatClampNeg) r12) fun (w43 : Wd) =>
    lt_ (l8 + 1) fun (v46 : Int32) =>
    some (.inl (l39, l40, v46, w43))
def fX6_calmPair (w : Wd) : Option (Int32 × Wd) :=
  (fX6_startFromNow w).bind fun q3 => un2 q3 fun (r2 : Int32) (w1 : Wd) =>
  lt_ (w1.1 1 5) fun (v5 : Int32) =>
  (iter (fun s : Int32 × Int32 × Int32 × Wd => fX6_calmPair_b16 s.1 s.2.1 s.2.2.1 s.2.2.2) FU (r2, (-9), v5, w1)).bind fun x48 => un2 x48 fun (l49 : Int32) (w50 : Wd) =>
  some (l49, w50)
def fX9_calms (w : Wd) (a1 : Int32) : Option (Int32 × Wd) :=
  if (fX9_isOutside a1 1) = 0 then
    if a1 = 0 then
      (fX6_calmPlace w).bind fun q3 => un2 q3 fun (r2 : Int32) (w1 : Wd) =>
      some (r2, w1)
    else
      (fX6_calmPair w).bind fun q7 => un2 q7 fun (r6 : Int32) (w5 : Wd) =>
      some (r6, w5)
  else
    (fX9_refuse w (-2)).bind fun q12 => un2 q12 fun (r11 : Int32) (w10 : Wd) =>
    some (r11, w10)
def fX1_farthestDoor_b60 (v9 : Int32) (w7 : Wd) (l10 : Int32) : Option ((Int32) ⊕ (Int32 × Wd)) :=
  if l10 < v9 then
    some (.inr ((-9), w7))
  else
    gd_ (ib (l10 - (w7.1 1 5)) 25) <|
    if (w7.1 26 (l10 - (w7.1 1 5)).toNatClampNeg) = 0 then
      lt_ (l10 + (-1)) fun (v12 : Int32) =>
      some (.inl v12)
    else
      some (.inr (l10, w7))
def fX1_farthestDoor (w : Wd) : Option (Int32 × Wd) :=
  lt_ (fX2_takeFrom 3 1 w) fun (w1 : Wd) =>
  lt_ (upI w1 3 4 24) fun (w3 : Wd) =>
  (fX8_setOut 3 w3).bind fun (w5 : Wd) =>
  (fX8_walkOn w5 (w5.1 3 1)).bind fun (w7 : Wd) =>
  lt_ (jmax 1 (w7.1 1 5)) fun (v9 : Int32) =>
  iter (fun s : Int32 => fX1_farthestDoor_b60 v9 w7 s) FU (24 : Int32)
def fX9_farthest (w : Wd) : Option (Int32 × Wd) :=
  (fX1_farthestDoor w).bind fun q3 => un2 q3 fun (r2 : Int32) (w1 : Wd) =>
  some (r2, w1)
def fX1_countTurned_b13 (l3 : Int32) (w4 : Wd) : Option ((Int32 × Wd) ⊕ (Wd)) :=
  if (w4.1 1 0) ≤ l3 then
    some (.inr w4)
  else
    (fX2_copyOne 3 1 w4 l3 (((w4.1 1 0) - 1) - l3)).bind fun (w6 : Wd) =>
    lt_ (l3 + 1) fun (v8 : Int32) =>
    some (.inl (v8, w6))
def fX1_countTurned (w : Wd) : Option (Int32 × Wd) :=
  lt_ (fX2_takeFrom 3 1 w) fun (w1 : Wd) =>
  (iter (fun s : Int32 × Wd => fX1_countTurned_b13 s.1 s.2) FU (0, w1)).bind fun (w11 : Wd) =>
  (fX1_countOf 3 w11).bind fun q15 => un2 q15 fun (r14 : Int32) (w13 : Wd) =>
  some (r14, w13)
def fX9_turned (w : Wd) : Option (Int32 × Wd) :=
  (fX1_countTurned w).bind fun q3 => un2 q3 fun (r2 : Int32) (w1 : Wd) =>
  some (r2, w1)
def fX4_handOn_b2 (a1 : Int32) (l1 : Int32) (w2 : Wd) : Option ((Int32 × Wd) ⊕ (Wd)) :=
  if (w2.1 4 0) ≤ l1 then
    some (.inr w2)
  else
    if (fX9_hasBit a1 l1) = 0 then
      lt_ (l1 + 1) fun (v4 : Int32) =>
      some (.inl (v4, w2))
    else
      gd_ (ib l1 8) <|
      gd_ (ib (w2.1 25 l1.toNatClampNeg) 8) <|
      lt_ (upI w2 35 (l1.toNatClampNeg) (w2.1 35 (w2.1 25 l1.toNatClampNeg).toNatClampNeg)) fun (w7 : Wd) =>
      lt_ (l1 + 1) fun (v9 : Int32) =>
      some (.inl (v9, w7))
def fX4_handOn (w : Wd) (a1 : Int32) : Option (Wd) :=
  (iter (fun s : Int32 × Wd => fX4_handOn_b2 a1 s.1 s.2) FU (0, w)).bind fun (w13 : Wd) =>
  some w13
def fX4_originOf_b13 (l3 : Int32) (w4 : Wd) : Option ((Int32 × Wd) ⊕ (Wd)) :=
  if (8 : Int32) ≤ l3 then
    some (.inr w4)
  else
    gd_ (ib l3 8) <|
    lt_ (upI w4 35 (l3.toNatClampNeg) l3) fun (w6 : Wd) =>
    lt_ (l3 + 1) fun (v9 : Int32) =>
    some (.inl (v9, w6))
def fX4_originOf_b42 (l15 : Int32) (l16 : Int32) (w17 : Wd) : Option ((Int32 × Int32 × Wd) ⊕ (Int32 × Wd)) :=
  if (w17.1 4 4) ≤ l16 then
    some (.inr (l15, w17))
  else
    (fX8_minuteAt w17 ((w17.1 4 3) + l16) l15).bind fun q21 => un2 q21 fun (r20 : Int32) (w19 : Wd) =>
    (fX4_handOn w19 (w19.1 4 6)).bind fun (w23 : Wd) =>
    lt_ (l16 + 1) fun (v25 : Int32) =>
    some (.inl (r20, v25, w23))
def fX4_originOf (w : Wd) (a1 : Int32) : Option (Int32 × Wd) :=
  (fX8_setOut 1 w).bind fun (w1 : Wd) =>
  (iter (fun s : Int32 × Wd => fX4_originOf_b13 s.1 s.2) FU (0, w1)).bind fun (w12 : Wd) =>
  lt_ (w12.1 1 1) fun (v14 : Int32) =>
  (iter (fun s : Int32 × Int32 × Wd => fX4_originOf_b42 s.1 s.2.1 s.2.2) FU (v14, 0, w12)).bind fun x27 => un2 x27 fun (l28 : Int32) (w29 : Wd) =>
  if (fX9_hasBit l28 a1) = 0 then
    some ((-9), w29)
  else
    gd_ (ib a1 8) <|
    some (w29.1 35 a1.toNatClampNeg, w29)
def fX9_flame (w : Wd) (a1 : Int32) : Option (Int32 × Wd) :=
  if (fX2_hasOne 1 w a1) = 0 then
    (fX9_refuse w (-1)).bind fun q3 => un2 q3 fun (r2 : Int32) (w1 : Wd) =>
    some (r2, w1)
  else
    (fX4_originOf w a1).bind fun q7 => un2 q7 fun (r6 : Int32) (w5 : Wd) =>
    some (r6, w5)
def fX4_timesOut_b24 (a1 : Int32) (l4 : Int32) (l5 : Int32) (l6 : Int32) (w7 : Wd) : Option ((Int32 × Int32 × Int32 × Wd) ⊕ (Int32 × Wd)) :=
  if (w7.1 4 4) ≤ l6 then
    some (.inr (l4, w7))
  else
    (fX8_minuteAt w7 ((w7.1 4 3) + l6) l5).bind fun q11 => un2 q11 fun (r10 : Int32) (w9 : Wd) =>
    if (fX9_hasBit (w9.1 4 5) a1) = 0 then
      lt_ (l6 + 1) fun (v13 : Int32) =>
      some (.inl (l4, r10, v13, w9))
    else
      lt_ (l4 + 1) fun (v14 : Int32) =>
      lt_ (l6 + 1) fun (v15 : Int32) =>
      some (.inl (v14, r10, v15, w9))
def fX4_timesOut (w : Wd) (a1 : Int32) : Option (Int32 × Wd) :=
  (fX8_setOut 1 w).bind fun (w1 : Wd) =>
  lt_ (w1.1 1 1) fun (v3 : Int32) =>
  (iter (fun s : Int32 × Int32 × Int32 × Wd => fX4_timesOut_b24 a1 s.1 s.2.1 s.2.2.1 s.2.2.2) FU (0, v3, 0, w1)).bind fun x18 => un2 x18 fun (l19 : Int32) (w20 : Wd) =>
  some (l19, w20)
def fX9_out (w : Wd) (a1 : Int32) : Option (Int32 × Wd) :=
  if (fX2_hasOne 1 w a1) = 0 then
    (fX9_refuse w (-1)).bind fun q3 => un2 q3 fun (r2 : Int32) (w1 : Wd) =>
    some (r2, w1)
  else
    (fX4_timesOut w a1).bind fun q7 => un2 q7 fun (r6 : Int32) (w5 : Wd) =>
    some (r6, w5)
def fX4_timesLit_b23 (l4 : Int32) (l5 : Int32) (l6 : Int32) (w7 : Wd) : Option ((Int32 × Int32 × Int32 × Wd) ⊕ (Int32 × Wd)) :=
  if (w7.1 4 4) ≤ l6 then
    some (.inr (l4, w7))
  else
    (fX8_minuteAt w7 ((w7.1 4 3) + l6) l5).bind fun q11 => un2 q11 fun (r10 : Int32) (w9 : Wd) =>
    lt_ (l4 + (fJ6_bitCount_0f7a4 (w9.1 4 6))) fun (v13 : Int32) =>
    lt_ (l6 + 1) fun (v14 : Int32) =>
    some (.inl (v13, r10, v14, w9))
def fX4_timesLit (w : Wd) : Option (Int32 × Wd) :=
  (fX8_setOut 1 w).bind fun (w1 : Wd) =>
  lt_ (w1.1 1 1) fun (v3 : Int32) =>
  (iter (fun s : Int32 × Int32 × Int32 × Wd => fX4_timesLit_b23 s.1 s.2.1 s.2.2.1 s.2.2.2) FU (0, v3, 0, w1)).bind fun x16 => un2 x16 fun (l17 : Int32) (w18 : Wd) =>
  some (l17, w18)
def fX9_again (w : Wd) : Option (Int32 × Wd) :=
  (fX4_timesLit w).bind fun q3 => un2 q3 fun (r2 : Int32) (w1 : Wd) =>
  some (r2, w1)
def fX1_fillGame_b20 (l3 : Int32) (l6 : Int32) (w7 : Wd) : Option ((Int32 × Wd) ⊕ (Wd)) :=
  if (2 : Int32) < l6 then
    some (.inr w7)
  else
    lt_ (upI w7 3 2 l3) fun (w9 : Wd) =>
    (fX2_blowFrom 3 w9 l6).bind fun (w11 : Wd) =>
    (fX1_countOf 3 w11).bind fun q15 => un2 q15 fun (r14 : Int32) (w13 : Wd) =>
    gd_ (ib ((3 * l3) + l6) 9) <|
    lt_ (upI w13 38 (((3 * l3) + l6).toNatClampNeg) r14) fun (w17 : Wd) =>
    lt_ (l6 + 1) fun (v20 : Int32) =>
    some (.inl (v20, w17))
def fX1_fillGame_b13 (l3 : Int32) (w4 : Wd) : Option ((Int32 × Wd) ⊕ (Wd)) :=
  if (2 : Int32) < l3 then
    some (.inr w4)
  else
    (iter (fun s : Int32 × Wd => fX1_fillGame_b20 l3 s.1 s.2) FU (0, w4)).bind fun (w23 : Wd) =>
    lt_ (l3 + 1) fun (v25 : Int32) =>
    some (.inl (v25, w23))
def fX1_fillGame (w : Wd) : Option (Wd) :=
  lt_ (fX2_takeFrom 3 1 w) fun (w1 : Wd) =>
  (iter (fun s : Int32 × Wd => fX1_fillGame_b13 s.1 s.2) FU (0, w1)).bind fun (w28 : Wd) =>
  some w28
def fX1_fewestOfForm (w : Wd) (a1 : Int32) : Option (Int32) :=
  lt_ (3 * a1) fun (v1 : Int32) =>
  gd_ (ib v1 9) <|
  gd_ (ib (v1 + 1) 9) <|
  gd_ (ib (v1 + 2) 9) <|
  some (jmin (w.1 38 v1.toNatClampNeg) (jmin (w.1 38 (v1 + 1).toNatClampNeg) (w.1 38 (v1 + 2).toNatClampNeg)))
def fX1_mostOfSide (w : Wd) (a1 : Int32) : Option (Int32) :=
  gd_ (ib a1 9) <|
  gd_ (ib (a1 + 3) 9) <|
  gd_ (ib (a1 + 6) 9) <|
  some (jmax (w.1 38 a1.toNatClampNeg) (jmax (w.1 38 (a1 + 3).toNatClampNeg) (w.1 38 (a1 + 6).toNatClampNeg)))
def fX1_steadyPair_b9 (l1 : Int32) (w : Wd) (l2 : Int32) : Option ((Int32) ⊕ (((Int32) ⊕ (Int32)))) :=
  if (2 : Int32) < l2 then
    lt_ (l1 + 1) fun (v3 : Int32) =>
    some (.inr (.inl v3))
  else
    gd_ (ib ((3 * l1) + l2) 9) <|
    lt_ (w.1 38 ((3 * l1) + l2).toNatClampNeg) fun (v5 : Int32) =>
    (fX1_fewestOfForm w l1).bind fun (r6 : Int32) =>
    if v5 = r6 then
      (fX1_mostOfSide w l2).bind fun (r7 : Int32) =>
      if v5 = r7 then
        some (.inr (.inr ((10 * l1) + l2)))
      else
        lt_ (l2 + 1) fun (v8 : Int32) =>
        some (.inl v8)
    else
      lt_ (l2 + 1) fun (v10 : Int32) =>
      some (.inl v10)
def fX1_steadyPair_b2 (w : Wd) (l1 : Int32) : Option ((Int32) ⊕ (Int32)) :=
  if (2 : Int32) < l1 then
    some (.inr ((-9) : Int32))
  else
    iter (fun s : Int32 => fX1_steadyPair_b9 l1 w s) FU (0 : Int32)
def fX1_steadyPair (w : Wd) : Option (Int32) :=
  iter (fun s : Int32 => fX1_steadyPair_b2 w s) FU (0 : Int32)
def fX1_sureNumber (w : Wd) : Option (Int32) :=
  (fX1_fewestOfForm w 0).bind fun (r1 : Int32) =>
  (fX1_fewestOfForm w 1).bind fun (r2 : Int32) =>
  (fX1_fewestOfForm w 2).bind fun (r3 : Int32) =>
  some (jmax r1 (jmax r2 r3))
def fX1_knownNumber (w : Wd) : Option (Int32) :=
  (fX1_mostOfSide w 0).bind fun (r1 : Int32) =>
  (fX1_mostOfSide w 1).bind fun (r2 : Int32) =>
  (fX1_mostOfSide w 2).bind fun (r3 : Int32) =>
  some (jmin r1 (jmin r2 r3))
def fX9_game (w : Wd) (a1 : Int32) : Option (Int32 × Wd) :=
  if (fX9_isOutside a1 2) = 0 then
    (fX1_fillGame w).bind fun (w1 : Wd) =>
    if a1 = 0 then
      (fX1_steadyPair w1).bind fun (r3 : Int32) =>
      some (r3, w1)
    else
      if a1 = 1 then
        (fX1_sureNumber w1).bind fun (r4 : Int32) =>
        some (r4, w1)
      else
        (fX1_knownNumber w1).bind fun (r5 : Int32) =>
        some (r5, w1)
  else
    (fX9_refuse w (-2)).bind fun q10 => un2 q10 fun (r9 : Int32) (w8 : Wd) =>
    some (r9, w8)
def fX1_kindsLit_b4 (a1 : Int32) (l1 : Int32) (l2 : Int32) (w3 : Wd) : Option ((Int32 × Int32 × Wd) ⊕ (Int32 × Wd)) :=
  if (6 : Int32) < l2 then
    some (.inr (l1, w3))
  else
    lt_ (fX2_takeFrom 3 1 w3) fun (w5 : Wd) =>
    (fX2_become 3 w5 a1 l2).bind fun (w7 : Wd) =>
    (fX1_doorOf 3 w7).bind fun q11 => un2 q11 fun (r10 : Int32) (w9 : Wd) =>
    if (fX9_hasBit r10 a1) = 0 then
      lt_ (l2 + 1) fun (v13 : Int32) =>
      some (.inl (l1, v13, w9))
    else
      lt_ (l1 ||| ((1 : Int32) <<< (l2 &&& 31))) fun (v14 : Int32) =>
      lt_ (l2 + 1) fun (v15 : Int32) =>
      some (.inl (v14, v15, w9))
def fX1_kindsLit (w : Wd) (a1 : Int32) : Option (Int32 × Wd) :=
  (iter (fun s : Int32 × Int32 × Wd => fX1_kindsLit_b4 a1 s.1 s.2.1 s.2.2) FU (0, 0, w)).bind fun x18 => un2 x18 fun (l19 : Int32) (w20 : Wd) =>
  some (l19, w20)
def fX9_heirs (w : Wd) (a1 : Int32) : Option (Int32 × Wd) :=
  if (fX2_hasOne 1 w a1) = 0 then
    (fX9_refuse w (-1)).bind fun q3 => un2 q3 fun (r2 : Int32) (w1 : Wd) =>
    some (r2, w1)
  else
    (fX1_kindsLit w a1).bind fun q7 => un2 q7 fun (r6 : Int32) (w5 : Wd) =>
    some (r6, w5)
def fX4_widestGap_b7 (w : Wd) (a1 : Int32) (l1 : Int32) (l2 : Int32) (l3 : Int32) : Option ((Int32 × Int32 × Int32) ⊕ (Int32)) :=
  if (w.1 4 0) ≤ l3 then
    some (.inr l1)
  else
    lt_ (if (fX9_hasBit a1 l3) = 0 then
      l2 + 1
    else
      (0 : Int32) : Int32) fun (v5 : Int32) =>
    lt_ (jmax l1 v5) fun (v6 : Int32) =>
    lt_ (l3 + 1) fun (v7 : Int32) =>
    some (.inl (v6, v5, v7))
def fX4_widestGap (w : Wd) (a1 : Int32) : Option (Int32) :=
  (iter (fun s : Int32 × Int32 × Int32 => fX4_widestGap_b7 w a1 s.1 s.2.1 s.2.2) FU (0, 0, 0)).bind fun (l10 : Int32) =>
  some l10
def fX4_findGap_b17 (l7 : Int32) (w8 : Wd) : Option ((Int32 × Wd) ⊕ (Wd)) :=
  if (w8.1 4 4) < l7 then
    some (.inr w8)
  else
    gd_ (ib l7 25) <|
    (fX4_widestGap w8 (w8.1 26 l7.toNatClampNeg)).bind fun (r11 : Int32) =>
    if r11 ≤ (w8.1 8 2) then
      lt_ (l7 + 1) fun (v12 : Int32) =>
      some (.inl (v12, w8))
    else
      lt_ (upI w8 8 2 r11) fun (w13 : Wd) =>
      lt_ (upI w13 8 3 l7) fun (w15 : Wd) =>
      lt_ (l7 + 1) fun (v17 : Int32) =>
      some (.inl (v17, w15))
def fX4_findGap (w : Wd) : Option (Wd) :=
  (fX4_walkFromNow w).bind fun (w1 : Wd) =>
  lt_ (upI w1 8 2 0) fun (w3 : Wd) =>
  lt_ (upI w3 8 3 (-9)) fun (w5 : Wd) =>
  (iter (fun s : Int32 × Wd => fX4_findGap_b17 s.1 s.2) FU (1, w5)).bind fun (w21 : Wd) =>
  some w21
def fX9_gaps (w : Wd) (a1 : Int32) : Option (Int32 × Wd) :=
  if (fX9_isOutside a1 1) = 0 then
    (fX4_findGap w).bind fun (w1 : Wd) =>
    if a1 = 0 then
      some (w1.1 8 2, w1)
    else
      some (w1.1 8 3, w1)
  else
    (fX9_refuse w (-2)).bind fun q6 => un2 q6 fun (r5 : Int32) (w4 : Wd) =>
    some (r5, w4)
def fX6_struck (w : Wd) (a1 : Int32) : Int32 :=
  lt_ ((w.1 4 1) &&& (a1 ^^^ (-1))) fun (v1 : Int32) =>
  a1 ||| (v1 &&& (-v1))
def fX6_hasOneMatch_b6 (a3 : Int32) (l1 : Int32) (l2 : Int32) (w3 : Wd) : Option ((Int32 × Int32 × Wd) ⊕ (Int32 × Wd)) :=
  if (w3.1 4 4) ≤ l2 then
    some (.inr (0, w3))
  else
    (fX8_atDoorFrom w3 l2 (fX6_struck w3 l1)).bind fun q6 => un2 q6 fun (r5 : Int32) (w4 : Wd) =>
    if r5 = 0 then
      (fX8_minuteAt w4 ((w4.1 4 3) + l2) l1).bind fun q10 => un2 q10 fun (r9 : Int32) (w8 : Wd) =>
      lt_ (l2 + 1) fun (v12 : Int32) =>
      some (.inl (r9, v12, w8))
    else
      gd_ (ib a3 3) <|
      lt_ (upI w4 36 (a3.toNatClampNeg) l2) fun (w13 : Wd) =>
      some (.inr (1, w13))
def fX6_hasOneMatch (w : Wd) (a1 : Int32) (a2 : Int32) (a3 : Int32) : Option (Int32 × Wd) :=
  iter (fun s : Int32 × Int32 × Wd => fX6_hasOneMatch_b6 a3 s.1 s.2.1 s.2.2) FU (a2, a1, w)
def fX6_hasTwoMatches_b6 (a3 : Int32) (l1 : Int32) (l2 : Int32) (w3 : Wd) : Option ((Int32 × Int32 × Wd) ⊕ (Int32 × Wd)) :=
  if (w3.1 4 4) ≤ l2 then
    some (.inr (0, w3))
  else
    (fX8_minuteAt w3 ((w3.1 4 3) + l2) (fX6_struck w3 l1)).bind fun q6 => un2 q6 fun (r5 : Int32) (w4 : Wd) =>
    (fX6_hasOneMatch w4 (l2 + 1) r5 (a3 + 1)).bind fun q10 => un2 q10 fun (r9 : Int32) (w8 : Wd) =>
    if r9 = 0 then
      (fX8_minuteAt w8 ((w8.1 4 3) + l2) l1).bind fun q14 => un2 q14 fun (r13 : Int32) (w12 : Wd) =>
      lt_ (l2 + 1) fun (v16 : Int32) =>
      some (.inl (r13, v16, w12))
    else
      gd_ (ib a3 3) <|
      lt_ (upI w8 36 (a3.toNatClampNeg) l2) fun (w17 : Wd) =>
      some (.inr (1, w17))
def fX6_hasTwoMatches (w : Wd) (a1 : Int32) (a2 : Int32) (a3 : Int32) : Option (Int32 × Wd) :=
  iter (fun s : Int32 × Int32 × Wd => fX6_hasTwoMatches_b6 a3 s.1 s.2.1 s.2.2) FU (a2, a1, w)
def fX6_fewestMatches_b47 (l13 : Int32) (w14 : Wd) : Option ((Int32 × Wd) ⊕ (Int32 × Wd)) :=
  if (w14.1 4 4) ≤ l13 then
    some (.inr ((-9), w14))
  else
    gd_ (ib l13 25) <|
    (fX8_minuteAt w14 ((w14.1 4 3) + l13) (fX6_struck w14 (w14.1 26 l13.toNatClampNeg))).bind fun q18 => un2 q18 fun (r17 : Int32) (w16 : Wd) =>
    (fX6_hasTwoMatches w16 (l13 + 1) r17 1).bind fun q22 => un2 q22 fun (r21 : Int32) (w20 : Wd) =>
    if r21 = 0 then
      lt_ (l13 + 1) fun (v24 : Int32) =>
      some (.inl (v24, w20))
    else
      lt_ (upI w20 36 0 l13) fun (w25 : Wd) =>
      some (.inr (3, w25))
def fX6_fewestMatches (w : Wd) : Option (Int32 × Wd) :=
  (fX6_startFromNow w).bind fun q3 => un2 q3 fun (r2 : Int32) (w1 : Wd) =>
  if r2 ≤ 0 then
    (fX6_hasOneMatch w1 0 (w1.1 1 1) 0).bind fun q7 => un2 q7 fun (r6 : Int32) (w5 : Wd) =>
    if r6 = 0 then
      (fX6_hasTwoMatches w5 0 (w5.1 1 1) 0).bind fun q11 => un2 q11 fun (r10 : Int32) (w9 : Wd) =>
      if r10 = 0 then
        iter (fun s : Int32 × Wd => fX6_fewestMatches_b47 s.1 s.2) FU (0, w9)
      else
        some (2, w9)
    else
      some (1, w5)
  else
    some (0, w1)
def fX9_matches (w : Wd) (a1 : Int32) : Option (Int32 × Wd) :=
  if ((-1) : Int32) ≤ a1 then
    (fX6_fewestMatches w).bind fun q3 => un2 q3 fun (r2 : Int32) (w1 : Wd) =>
    if a1 = (-1) then
      some (r2, w1)
    else
      if r2 ≤ a1 then
        some ((-9), w1)
      else
        if (3 : Int32) ≤ a1 then
          some ((-9), w1)
        else
          gd_ (ib a1 3) <|
          some (w1.1 36 a1.toNatClampNeg, w1)
  else
    (fX9_refuse w (-4)).bind fun q11 => un2 q11 fun (r10 : Int32) (w9 : Wd) =>
    some (r10, w9)
def fX9_image (w : Wd) : Int32 × Wd :=
  lt_ (fX2_takeFrom 2 1 w) fun (w1 : Wd) =>
  lt_ (upI w1 0 2 1) fun (w3 : Wd) =>
  (w3.1 1 5, w3)
def fX9_restore (w : Wd) : Option (Int32 × Wd) :=
  if (w.1 0 2) = 0 then
    (fX9_refuse w (-3)).bind fun q3 => un2 q3 fun (r2 : Int32) (w1 : Wd) =>
    some (r2, w1)
  else
    lt_ (fX2_takeFrom 1 2 w) fun (w5 : Wd) =>
    lt_ (fX5_forget w5) fun (w7 : Wd) =>
    some (w7.1 1 5, w7)
def fX9_count_j22 (a1 : Int32) (w : Wd) : Option (Int32) :=
  if a1 = 0 then
    some (w.1 1 0)
  else if a1 = 1 then
    some (fJ6_bitCount_0f7a4 (w.1 1 1))
  else if a1 = 2 then
    some (w.1 1 5)
  else if a1 = 3 then
    some (w.1 1 6)
  else if a1 = 4 then
    some (w.1 1 2)
  else if a1 = 5 then
    some (w.1 1 3)
  else if a1 = 6 then
    some (w.1 1 4)
  else if a1 = 7 then
    some (w.1 6 0)
  else if a1 = 8 then
    some (w.1 7 0)
  else if a1 = 9 then
    (fX2_lightOf 1 w (w.1 1 1)).bind fun (r11 : Int32) =>
    some r11
  else if a1 = 10 then
    some (w.1 5 0)
  else 
    some ((-9) : Int32)
def fX9_count (w : Wd) (a1 : Int32) : Option (Int32) :=
  if a1 < 11 then
    fX9_count_j22 a1 w
  else
    if (16 : Int32) < a1 then
      fX9_count_j22 a1 w
    else
      gd_ (ib (a1 - 10) 7) <|
      some (w.1 12 (a1 - 10).toNatClampNeg)
def fX10_bound (a0 : Int32) (a1 : Int32) (a2 : Int32) : Int32 :=
  if a1 ≤ a0 then
    if a0 ≤ a2 then
      (0 : Int32)
    else
      ((-6) : Int32)
  else
    ((-4) : Int32)
def fX10_no (w : Wd) (a1 : Int32) : Option (Int32 × Wd) :=
  gd_ (ib (-a1) 7) <|
  lt_ (upI w 43 ((-a1).toNatClampNeg) ((w.1 43 (-a1).toNatClampNeg) + 1)) fun (w2 : Wd) =>
  some (a1, w2)
def fX10_feed_j25 (a1 : Int32) (w3 : Wd) (l2 : Int32) : Option (Int32 × Wd) :=
  if l2 = 0 then
    gd_ (ib (w3.1 42 14) 96) <|
    lt_ (upI w3 49 ((w3.1 42 14).toNatClampNeg) a1) fun (w4 : Wd) =>
    lt_ (upI w4 42 14 ((w4.1 42 14) + 1)) fun (w7 : Wd) =>
    some (w7.1 42 14, w7)
  else
    (fX10_no w3 l2).bind fun q11 => un2 q11 fun (r10 : Int32) (w9 : Wd) =>
    some (r10, w9)
def fX10_feed (w : Wd) (a1 : Int32) : Option (Int32 × Wd) :=
  lt_ (fX10_bound a1 0 255) fun (v1 : Int32) =>
  if v1 = 0 then
    if (w.1 42 14) = 96 then
      fX10_feed_j25 a1 w (-6)
    else
      fX10_feed_j25 a1 w v1
  else
    fX10_feed_j25 a1 w v1
def fX10_next (w : Wd) : Option (Int32) :=
  if (w.1 42 14) ≤ (w.1 42 15) then
    some ((-1) : Int32)
  else
    gd_ (ib (w.1 42 15) 96) <|
    some (w.1 49 (w.1 42 15).toNatClampNeg)
def fX10_isIn (a0 : Int32) (a1 : Int32) (a2 : Int32) : Int32 :=
  if a0 < a1 then
    (0 : Int32)
  else
    if a2 < a0 then
      (0 : Int32)
    else
      (1 : Int32)
def fX10_readsDigits_b5 (a2 : Int32) (a1 : Int32) (l1 : Int32) (l2 : Int32) (w3 : Wd) : Option ((Int32 × Int32 × Wd) ⊕ (Int32 × Wd)) :=
  if a2 ≤ l2 then
    gd_ (ib a1 144) <|
    lt_ (upI w3 52 (a1.toNatClampNeg) l1) fun (w4 : Wd) =>
    some (.inr (1, w4))
  else
    (fX10_next w3).bind fun (r7 : Int32) =>
    if (fX10_isIn r7 48 57) = 0 then
      some (.inr (0, w3))
    else
      (fX10_next w3).bind fun (r8 : Int32) =>
      lt_ (((10 * l1) + r8) - 48) fun (v9 : Int32) =>
      lt_ (upI w3 42 15 ((w3.1 42 15) + 1)) fun (w10 : Wd) =>
      lt_ (l2 + 1) fun (v12 : Int32) =>
      some (.inl (v9, v12, w10))
def fX10_readsDigits (w : Wd) (a1 : Int32) (a2 : Int32) : Option (Int32 × Wd) :=
  iter (fun s : Int32 × Int32 × Wd => fX10_readsDigits_b5 a2 a1 s.1 s.2.1 s.2.2) FU (0, 0, w)
def fX10_readsAll (w : Wd) (a1 : Int32) (a2 : Int32) : Option (Int32 × Wd) :=
  if a1 = 100 then
    (fX10_readsDigits w a2 2).bind fun q4 => un2 q4 fun (r3 : Int32) (w2 : Wd) =>
    gd_ (bz r3) <|
    some (r3, w2)
  else if a1 = 102 then
    (fX10_readsDigits w a2 1).bind fun q10 => un2 q10 fun (r9 : Int32) (w8 : Wd) =>
    if r9 = 0 then
      some (0, w8)
    else
      (fX10_readsDigits w8 (a2 + 1) 1).bind fun q14 => un2 q14 fun (r13 : Int32) (w12 : Wd) =>
      if r13 = 0 then
        some (0, w12)
      else
        some (1, w12)
  else if a1 = 112 then
    (fX10_readsDigits w a2 1).bind fun q21 => un2 q21 fun (r20 : Int32) (w19 : Wd) =>
    if r20 = 0 then
      some (0, w19)
    else
      (fX10_readsDigits w19 (a2 + 1) 1).bind fun q25 => un2 q25 fun (r24 : Int32) (w23 : Wd) =>
      if r24 = 0 then
        some (0, w23)
      else
        (fX10_readsDigits w23 (a2 + 2) 1).bind fun q29 => un2 q29 fun (r28 : Int32) (w27 : Wd) =>
        if r28 = 0 then
          some (0, w27)
        else
          some (1, w27)
  else if a1 = 119 then
    (fX10_readsDigits w a2 2).bind fun q37 => un2 q37 fun (r36 : Int32) (w35 : Wd) =>
    if r36 = 0 then
      some (0, w35)
    else
      (fX10_readsDigits w35 (a2 + 1) 1).bind fun q41 => un2 q41 fun (r40 : Int32) (w39 : Wd) =>
      if r40 = 0 then
        some (0, w39)
      else
        (fX10_readsDigits w39 (a2 + 2) 1).bind fun q45 => un2 q45 fun (r44 : Int32) (w43 : Wd) =>
        if r44 = 0 then
          some (0, w43)
        else
          some (1, w43)
  else 
    (fX10_readsDigits w a2 1).bind fun q52 => un2 q52 fun (r51 : Int32) (w50 : Wd) =>
    gd_ (bz r51) <|
    some (r51, w50)
def fX10_statement_j43 (w3 : Wd) (l2 : Int32) : Option (Int32 × Wd) :=
  gd_ (ib (w3.1 42 16) 48) <|
  lt_ (upI w3 50 ((w3.1 42 16).toNatClampNeg) l2) fun (w4 : Wd) =>
  gd_ (ib (w4.1 42 16) 48) <|
  lt_ (upI w4 51 ((w4.1 42 16).toNatClampNeg) (w4.1 42 15)) fun (w7 : Wd) =>
  lt_ (upI w7 42 15 ((w7.1 42 15) + 1)) fun (w10 : Wd) =>
  (fX10_readsAll w10 l2 (3 * (w10.1 42 16))).bind fun q14 => un2 q14 fun (r13 : Int32) (w12 : Wd) =>
  if r13 = 0 then
    some (0, w12)
  else
    (fX10_next w12).bind fun (r16 : Int32) =>
    if r16 = 59 then
      lt_ (upI w12 42 15 ((w12.1 42 15) + 1)) fun (w17 : Wd) =>
      some (1, w17)
    else
      some (0, w12)
def fX10_statement (w : Wd) : Option (Int32 × Wd) :=
  (fX10_next w).bind fun (r1 : Int32) =>
  if r1 = 112 then
    fX10_statement_j43 w r1
  else
    if r1 = 119 then
      fX10_statement_j43 w r1
    else
      if r1 = 102 then
        fX10_statement_j43 w r1
      else
        if r1 = 100 then
          fX10_statement_j43 w r1
        else
          if r1 = 108 then
            fX10_statement_j43 w r1
          else
            if r1 = 109 then
              fX10_statement_j43 w r1
            else
              some (0, w)
def fX10_passes_j42 (w9 : Wd) (l8 : Int32) : Option ((Int32 × Wd) ⊕ (Wd)) :=
  lt_ (upI w9 42 20 ((w9.1 42 20) + 1)) fun (w10 : Wd) =>
  lt_ (l8 + 1) fun (v12 : Int32) =>
  some (.inl (v12, w10))
def fX10_passes_b2 (n1 : Nat) (i1 : Nat) (l1 : Int32) (w2 : Wd) : Option ((Int32 × Wd) ⊕ (Wd)) :=
  if (Int32.ofNat n1) ≤ l1 then
    some (.inr w2)
  else
    if (w2.1 42 19) = 0 then
      gd_ (ib (w2.1 42 20) 240) <|
      gd_ (ib l1 n1) <|
      lt_ (upI w2 i1 (l1.toNatClampNeg) (w2.1 53 (w2.1 42 20).toNatClampNeg)) fun (w5 : Wd) =>
      fX10_passes_j42 w5 l1
    else
      gd_ (ib l1 n1) <|
      gd_ (ib (w2.1 42 20) 240) <|
      lt_ (upI w2 53 ((w2.1 42 20).toNatClampNeg) (w2.1 i1 l1.toNatClampNeg)) fun (w14 : Wd) =>
      fX10_passes_j42 w14 l1
def fX10_passes (i1 : Nat) (n1 : Nat) (w : Wd) : Option (Wd) :=
  (iter (fun s : Int32 × Wd => fX10_passes_b2 n1 i1 s.1 s.2) FU (0, w)).bind fun (w20 : Wd) =>
  some w20
def fX10_passOne_j38 (w5 : Wd) (l4 : Int32) : Option (Int32 × Wd) :=
  lt_ (upI w5 42 20 ((w5.1 42 20) + 1)) fun (w6 : Wd) =>
  some (l4, w6)
def fX10_passOne (w : Wd) (a1 : Int32) : Option (Int32 × Wd) :=
  (if (w.1 42 19) = 0 then
    gd_ (ib (w.1 42 20) 240) <|
    some (w.1 53 (w.1 42 20).toNatClampNeg)
  else
    some a1 : Option Int32).bind fun (v2 : Int32) =>
  if (w.1 42 19) = 0 then
    fX10_passOne_j38 w v2
  else
    gd_ (ib (w.1 42 20) 240) <|
    lt_ (upI w 53 ((w.1 42 20).toNatClampNeg) a1) fun (w8 : Wd) =>
    fX10_passOne_j38 w8 v2
def fX10_passesAll (w : Wd) (a1 : Int32) (a2 : Int32) : Option (Wd) :=
  lt_ (upI w 42 20 (80 * a1)) fun (w1 : Wd) =>
  gd_ (bz a2) <|
  lt_ (upI w1 42 19 a2) fun (w3 : Wd) =>
  (fX10_passes 44 3 w3).bind fun (w6 : Wd) =>
  (fX10_passes 45 8 w6).bind fun (w8 : Wd) =>
  (fX10_passes 46 8 w8).bind fun (w10 : Wd) =>
  (fX10_passes 47 25 w10).bind fun (w12 : Wd) =>
  (fX10_passes 48 25 w12).bind fun (w14 : Wd) =>
  (fX10_passOne w14 (w14.1 42 6)).bind fun q18 => un2 q18 fun (r17 : Int32) (w16 : Wd) =>
  lt_ (upI w16 42 6 r17) fun (w20 : Wd) =>
  (fX10_passOne w20 (w20.1 42 7)).bind fun q24 => un2 q24 fun (r23 : Int32) (w22 : Wd) =>
  lt_ (upI w22 42 7 r23) fun (w26 : Wd) =>
  (fX10_passOne w26 (w26.1 42 8)).bind fun q30 => un2 q30 fun (r29 : Int32) (w28 : Wd) =>
  lt_ (upI w28 42 8 r29) fun (w32 : Wd) =>
  (fX10_passOne w32 (w32.1 42 9)).bind fun q36 => un2 q36 fun (r35 : Int32) (w34 : Wd) =>
  lt_ (upI w34 42 9 r35) fun (w38 : Wd) =>
  some w38
def fX10_comesOne_j46 (a1 : Int32) (w3 : Wd) : Option (Int32 × Wd) :=
  if (w3.1 42 6) = 8 then
    some (0, w3)
  else
    gd_ (ib a1 144) <|
    gd_ (ib (w3.1 42 6) 8) <|
    lt_ (upI w3 45 ((w3.1 42 6).toNatClampNeg) (w3.1 52 a1.toNatClampNeg)) fun (w5 : Wd) =>
    gd_ (ib (a1 + 1) 144) <|
    gd_ (ib (w5.1 42 6) 8) <|
    lt_ (upI w5 46 ((w5.1 42 6).toNatClampNeg) (w5.1 52 (a1 + 1).toNatClampNeg)) fun (w9 : Wd) =>
    gd_ (ib (a1 + 2) 144) <|
    lt_ (upI w9 42 7 ((w9.1 42 7) ||| ((w9.1 52 (a1 + 2).toNatClampNeg) <<< ((w9.1 42 6) &&& 31)))) fun (w13 : Wd) =>
    lt_ (upI w13 42 6 ((w13.1 42 6) + 1)) fun (w15 : Wd) =>
    some (1, w15)
def fX10_comesOne (w : Wd) (a1 : Int32) : Option (Int32 × Wd) :=
  gd_ (ib a1 144) <|
  if (6 : Int32) < (w.1 52 a1.toNatClampNeg) then
    some (0, w)
  else
    gd_ (ib (a1 + 2) 144) <|
    if (1 : Int32) < (w.1 52 (a1 + 2).toNatClampNeg) then
      some (0, w)
    else
      if (w.1 52 a1.toNatClampNeg) = 6 then
        if (w.1 52 (a1 + 2).toNatClampNeg) = 1 then
          some (0, w)
        else
          fX10_comesOne_j46 a1 w
      else
        fX10_comesOne_j46 a1 w
def fX10_isPerson (w : Wd) (a1 : Int32) : Int32 :=
  if a1 < 0 then
    (0 : Int32)
  else
    if (w.1 42 6) ≤ a1 then
      (0 : Int32)
    else
      (1 : Int32)
def fX10_has (a0 : Int32) (a1 : Int32) : Int32 :=
  if (a0 >>> (a1 &&& 31)) &&& 1 = 1 then
    (1 : Int32)
  else
    (0 : Int32)
def fX10_doorAt (w : Wd) : Int32 :=
  w.1 44 2
def fX10_along_j46 (a1 : Int32) (w : Wd) (l4 : Int32) : Int32 :=
  if (fX10_isPerson w l4) = 0 then
    ((-9) : Int32)
  else
    if l4 = a1 then
      ((-9) : Int32)
    else
      l4
def fX10_along (w : Wd) (a1 : Int32) (a2 : Int32) : Int32 :=
  lt_ (a1 + a2) fun (v1 : Int32) =>
  if (w.1 44 0) = 1 then
    lt_ (if (0 : Int32) ≤ v1 then
      if v1 < (w.1 42 6) then
        v1
      else
        v1 - (w.1 42 6)
    else
      v1 + (w.1 42 6) : Int32) fun (v2 : Int32) =>
    fX10_along_j46 a1 w v2
  else
    fX10_along_j46 a1 w v1
def fX10_coverer (w : Wd) (a1 : Int32) (a2 : Int32) : Option (Int32) :=
  lt_ (if (w.1 44 0) = 2 then
    (2 : Int32)
  else
    (1 : Int32) : Int32) fun (v1 : Int32) =>
  gd_ (ib a2 25) <|
  if (w.1 48 a2.toNatClampNeg) = 2 then
    some ((-9) : Int32)
  else
    lt_ (if (w.1 48 a2.toNatClampNeg) = 0 then
      -v1
    else
      v1 : Int32) fun (v3 : Int32) =>
    some (fX10_along w a1 v3)
def fX10_coverOf (a0 : Int32) : Int32 :=
  if a0 = 2 then
    (0 : Int32)
  else if a0 = 4 then
    (3 : Int32)
  else if a0 = 6 then
    (0 : Int32)
  else 
    (1 : Int32)
def fX10_feltBy (w : Wd) (a1 : Int32) (a2 : Int32) : Option (Int32) :=
  (fX10_coverer w a1 a2).bind fun (r1 : Int32) =>
  gd_ (ib a2 25) <|
  (if (0 : Int32) ≤ r1 then
    gd_ (ib r1 8) <|
    some (fX10_coverOf (w.1 45 r1.toNatClampNeg))
  else
    some (0 : Int32) : Option Int32).bind fun (v4 : Int32) =>
  lt_ ((w.1 47 a2.toNatClampNeg) - v4) fun (v6 : Int32) =>
  if (0 : Int32) ≤ v6 then
    some v6
  else
    some (0 : Int32)
def fX10_holdsOf (a0 : Int32) (a1 : Int32) : Int32 :=
  lt_ (3 + (a1 / 3)) fun (v1 : Int32) =>
  if a0 = 1 then
    v1 + 2
  else if a0 = 2 then
    v1 + 1
  else if a0 = 3 then
    (99 : Int32)
  else if a0 = 4 then
    v1 - 1
  else if a0 = 5 then
    (v1 + 1) + (a1 / 2)
  else if a0 = 6 then
    v1 + 1
  else 
    v1
def fX10_holds (w : Wd) (a1 : Int32) : Option (Int32) :=
  (fX10_feltBy w a1 (w.1 42 8)).bind fun (r1 : Int32) =>
  gd_ (ib a1 8) <|
  if (fX10_holdsOf (w.1 45 a1.toNatClampNeg) (w.1 46 a1.toNatClampNeg)) < r1 then
    some (0 : Int32)
  else
    some (1 : Int32)
def fX10_holding_b4 (w : Wd) (l1 : Int32) (l2 : Int32) : Option ((Int32 × Int32) ⊕ (Int32)) :=
  if (w.1 42 6) ≤ l2 then
    some (.inr l1)
  else
    (if (fX10_has (w.1 42 7) l2) = 0 then
      some (0 : Int32)
    else
      (fX10_holds w l2).bind fun (r6 : Int32) =>
      if r6 = 0 then
        some (0 : Int32)
      else
        some ((1 : Int32) <<< (l2 &&& 31)) : Option Int32).bind fun (v5 : Int32) =>
    lt_ (l1 ||| v5) fun (v8 : Int32) =>
    lt_ (l2 + 1) fun (v9 : Int32) =>
    some (.inl (v8, v9))
def fX10_holding (w : Wd) : Option (Int32) :=
  (iter (fun s : Int32 × Int32 => fX10_holding_b4 w s.1 s.2) FU (0, 0)).bind fun (l12 : Int32) =>
  some l12
def fX10_bit (a0 : Int32) : Int32 :=
  if (0 : Int32) ≤ a0 then
    (1 : Int32) <<< (a0 &&& 31)
  else
    (0 : Int32)
def fX10_besideBits (w : Wd) (a1 : Int32) : Int32 :=
  if (w.1 44 0) = 2 then
    lt_ (if (fX10_isPerson w (a1 ^^^ 1)) = 0 then
      ((-9) : Int32)
    else
      a1 ^^^ 1 : Int32) fun (v1 : Int32) =>
    ((fX10_bit v1) ||| (fX10_bit (fX10_along w a1 (-2)))) ||| (fX10_bit (fX10_along w a1 2))
  else
    (fX10_bit (fX10_along w a1 (-1))) ||| (fX10_bit (fX10_along w a1 1))
def fX10_spread_b42 (v6 : Int32) (l2 : Int32) (l7 : Int32) (l8 : Int32) (l9 : Int32) (w10 : Wd) : Option ((Int32 × Int32 × Int32 × Wd) ⊕ (Int32 × Wd)) :=
  if (w10.1 42 6) ≤ l9 then
    some (.inr (l7, w10))
  else
    if l8 ≤ 0 then
      some (.inr (l7, w10))
    else
      if (fX10_has v6 l9) = 0 then
        lt_ (l9 + 1) fun (v13 : Int32) =>
        some (.inl (l7, l8, v13, w10))
      else
        if (fX10_has l7 l9) = 0 then
          gd_ (ib l9 8) <|
          if (w10.1 45 l9.toNatClampNeg) = 6 then
            lt_ (l9 + 1) fun (v15 : Int32) =>
            some (.inl (l7, l8, v15, w10))
          else
            lt_ (l7 ||| ((1 : Int32) <<< (l9 &&& 31))) fun (v16 : Int32) =>
            lt_ (upI w10 54 (l9.toNatClampNeg) l2) fun (w17 : Wd) =>
            gd_ (ib l2 8) <|
            lt_ (upI w17 55 (l9.toNatClampNeg) (w17.1 55 l2.toNatClampNeg)) fun (w20 : Wd) =>
            lt_ (upI w20 42 23 ((w20.1 42 23) + 1)) fun (w22 : Wd) =>
            lt_ (l8 + (-1)) fun (v24 : Int32) =>
            lt_ (l9 + 1) fun (v25 : Int32) =>
            some (.inl (v16, v24, v25, w22))
        else
          lt_ (l9 + 1) fun (v27 : Int32) =>
          some (.inl (l7, l8, v27, w10))
def fX10_spread_b4 (a1 : Int32) (l1 : Int32) (l2 : Int32) (w3 : Wd) : Option ((Int32 × Int32 × Wd) ⊕ (Int32 × Wd)) :=
  if (w3.1 42 6) ≤ l2 then
    some (.inr (l1, w3))
  else
    lt_ (if (fX10_has a1 l2) = 0 then
      (0 : Int32)
    else
      w3.1 44 1 : Int32) fun (v5 : Int32) =>
    lt_ (fX10_besideBits w3 l2) fun (v6 : Int32) =>
    (iter (fun s : Int32 × Int32 × Int32 × Wd => fX10_spread_b42 v6 l2 s.1 s.2.1 s.2.2.1 s.2.2.2) FU (l1, v5, 0, w3)).bind fun x32 => un2 x32 fun (l33 : Int32) (w34 : Wd) =>
    lt_ (l2 + 1) fun (v36 : Int32) =>
    some (.inl (l33, v36, w34))
def fX10_spread (w : Wd) (a1 : Int32) : Option (Int32 × Wd) :=
  (iter (fun s : Int32 × Int32 × Wd => fX10_spread_b4 a1 s.1 s.2.1 s.2.2) FU (a1, 0, w)).bind fun x38 => un2 x38 fun (l39 : Int32) (w40 : Wd) =>
  some (l39, w40)
def fX10_goes (w : Wd) (a1 : Int32) : Option (Wd) :=
  (fX10_holding w).bind fun (r1 : Int32) =>
  (fX10_spread w r1).bind fun q4 => un2 q4 fun (r3 : Int32) (w2 : Wd) =>
  lt_ (upI w2 42 7 r3) fun (w6 : Wd) =>
  lt_ (upI w6 42 9 ((w6.1 42 9) + 1)) fun (w8 : Wd) =>
  lt_ (if a1 = 0 then
    (1 : Int32)
  else
    (0 : Int32) : Int32) fun (v10 : Int32) =>
  lt_ (upI w8 42 8 ((w8.1 42 8) + v10)) fun (w11 : Wd) =>
  some w11
def fX10_comesMinute (w : Wd) (a1 : Int32) : Option (Int32 × Wd) :=
  if (1 : Int32) < a1 then
    some (0, w)
  else
    if (w.1 42 8) = (fX10_doorAt w) then
      some (0, w)
    else
      if (w.1 42 9) = 999 then
        some (0, w)
      else
        lt_ (if a1 = 1 then
          (1 : Int32)
        else
          (0 : Int32) : Int32) fun (v1 : Int32) =>
        (fX10_goes w v1).bind fun (w2 : Wd) =>
        some (1, w2)
def fX10_comes_j225 (w23 : Wd) (l22 : Int32) : Option (Int32 × Wd) :=
  lt_ (upI w23 42 7 ((w23.1 42 7) ^^^ ((1 : Int32) <<< (l22 &&& 31)))) fun (w24 : Wd) =>
  some (1, w24)
def fX10_comes (w : Wd) (a1 : Int32) : Option (Int32 × Wd) :=
  lt_ (3 * a1) fun (v1 : Int32) =>
  gd_ (ib v1 144) <|
  lt_ (w.1 52 v1.toNatClampNeg) fun (v3 : Int32) =>
  gd_ (ib (v1 + 1) 144) <|
  lt_ (w.1 52 (v1 + 1).toNatClampNeg) fun (v5 : Int32) =>
  gd_ (ib a1 48) <|
  lt_ (w.1 50 a1.toNatClampNeg) fun (v7 : Int32) =>
  if v7 = 100 then
    lt_ (upI w 44 2 v3) fun (w9 : Wd) =>
    if (fX10_isIn v3 1 24) = 0 then
      some (0, w9)
    else
      if v3 < (w9.1 42 8) then
        some (0, w9)
      else
        some (1, w9)
  else if v7 = 102 then
    lt_ (upI w 44 0 v3) fun (w14 : Wd) =>
    lt_ (upI w14 44 1 v5) fun (w16 : Wd) =>
    if (3 : Int32) ≤ v3 then
      some (0, w16)
    else
      if (fX10_isIn v5 1 2) = 0 then
        some (0, w16)
      else
        some (1, w16)
  else if v7 = 108 then
    if (fX10_isPerson w v3) = 0 then
      some (0, w)
    else
      gd_ (ib v3 8) <|
      if (w.1 45 v3.toNatClampNeg) = 6 then
        if (fX10_has (w.1 42 7) v3) = 0 then
          some (0, w)
        else
          fX10_comes_j225 w v3
      else
        fX10_comes_j225 w v3
  else if v7 = 112 then
    (fX10_comesOne w v1).bind fun q32 => un2 q32 fun (r31 : Int32) (w30 : Wd) =>
    gd_ (bz r31) <|
    some (r31, w30)
  else if v7 = 119 then
    if (24 : Int32) < v3 then
      some (0, w)
    else
      gd_ (ib (v1 + 2) 144) <|
      if (w.1 52 (v1 + 2).toNatClampNeg) ≤ 2 then
        gd_ (ib v3 25) <|
        lt_ (upI w 47 (v3.toNatClampNeg) v5) fun (w37 : Wd) =>
        lt_ (upI w37 48 (v3.toNatClampNeg) (w37.1 52 (v1 + 2).toNatClampNeg)) fun (w40 : Wd) =>
        some (1, w40)
      else
        some (0, w)
  else 
    (fX10_comesMinute w v3).bind fun q46 => un2 q46 fun (r45 : Int32) (w44 : Wd) =>
    gd_ (bz r45) <|
    some (r45, w44)
def fX10_road_j34 (w8 : Wd) : Option ((Int32 × Wd) ⊕ (Int32 × Wd)) :=
  (fX10_statement w8).bind fun q11 => un2 q11 fun (r10 : Int32) (w9 : Wd) =>
  lt_ (if r10 = 0 then
    (0 : Int32)
  else
    (1 : Int32) : Int32) fun (v13 : Int32) =>
  lt_ (upI w9 42 16 ((w9.1 42 16) + v13)) fun (w14 : Wd) =>
  some (.inl (r10, w14))
def fX10_road_b12 (l5 : Int32) (w6 : Wd) : Option ((Int32 × Wd) ⊕ (Int32 × Wd)) :=
  if l5 = 0 then
    some (.inr (l5, w6))
  else
    if (w6.1 42 15) < (w6.1 42 14) then
      fX10_road_j34 w6
    else
      if (w6.1 42 16) = 0 then
        fX10_road_j34 w6
      else
        some (.inr (l5, w6))
def fX10_road_b86 (l30 : Int32) (w31 : Wd) : Option ((Int32 × Wd) ⊕ (Int32 × Wd)) :=
  if (w31.1 42 16) ≤ l30 then
    lt_ (upI w31 42 27 0) fun (w32 : Wd) =>
    some (.inr (w32.1 42 16, w32))
  else
    (fX10_comes w31 l30).bind fun q36 => un2 q36 fun (r35 : Int32) (w34 : Wd) =>
    if r35 = 0 then
      (fX10_passesAll w34 1 0).bind fun (w38 : Wd) =>
      gd_ (ib l30 48) <|
      some (.inr ((-2000) - (w38.1 51 l30.toNatClampNeg), w38))
    else
      lt_ (l30 + 1) fun (v41 : Int32) =>
      some (.inl (v41, w34))
def fX10_road_j60 (w25 : Wd) (l24 : Int32) : Option (Int32 × Wd) :=
  lt_ (upI w25 42 14 0) fun (w26 : Wd) =>
  if l24 = 0 then
    some ((-1000) - (w26.1 42 15), w26)
  else
    (fX10_passesAll w26 1 1).bind fun (w28 : Wd) =>
    iter (fun s : Int32 × Wd => fX10_road_b86 s.1 s.2) FU (0, w28)
def fX10_road (w : Wd) : Option (Int32 × Wd) :=
  lt_ (upI w 42 15 0) fun (w1 : Wd) =>
  lt_ (upI w1 42 16 0) fun (w3 : Wd) =>
  (iter (fun s : Int32 × Wd => fX10_road_b12 s.1 s.2) FU (1, w3)).bind fun x20 => un2 x20 fun (l21 : Int32) (w22 : Wd) =>
  fX10_road_j60 w22 l21
def fX10_image (w : Wd) : Option (Int32 × Wd) :=
  lt_ (upI w 42 18 1) fun (w1 : Wd) =>
  (fX10_passesAll w1 0 1).bind fun (w3 : Wd) =>
  some (w3.1 42 8, w3)
def fX10_restore (w : Wd) : Option (Int32 × Wd) :=
  if (w.1 42 18) = 0 then
    (fX10_no w (-3)).bind fun q3 => un2 q3 fun (r2 : Int32) (w1 : Wd) =>
    some (r2, w1)
  else
    (fX10_passesAll w 0 0).bind fun (w5 : Wd) =>
    lt_ (upI w5 42 27 0) fun (w7 : Wd) =>
    some (w7.1 42 8, w7)
def fX10_givesOf (a0 : Int32) : Int32 :=
  if a0 = 0 then
    (2 : Int32)
  else if a0 = 3 then
    (3 : Int32)
  else if a0 = 4 then
    (3 : Int32)
  else 
    (1 : Int32)
def fX10_person (w : Wd) (a1 : Int32) (a2 : Int32) : Option (Int32 × Wd) :=
  if (fX10_isPerson w a1) = 0 then
    (fX10_no w (-1)).bind fun q3 => un2 q3 fun (r2 : Int32) (w1 : Wd) =>
    some (r2, w1)
  else
    if a2 = 0 then
      gd_ (ib a1 8) <|
      some (w.1 45 a1.toNatClampNeg, w)
    else if a2 = 1 then
      gd_ (ib a1 8) <|
      some (w.1 46 a1.toNatClampNeg, w)
    else if a2 = 2 then
      some (((w.1 42 7) >>> (a1 &&& 31)) &&& 1, w)
    else if a2 = 3 then
      gd_ (ib a1 8) <|
      some (fX10_coverOf (w.1 45 a1.toNatClampNeg), w)
    else if a2 = 4 then
      gd_ (ib a1 8) <|
      some (fX10_holdsOf (w.1 45 a1.toNatClampNeg) (w.1 46 a1.toNatClampNeg), w)
    else if a2 = 5 then
      gd_ (ib a1 8) <|
      some (fX10_givesOf (w.1 45 a1.toNatClampNeg), w)
    else if a2 = 6 then
      (fX10_feltBy w a1 (w.1 42 8)).bind fun (r17 : Int32) =>
      some (r17, w)
    else 
      (fX10_no w (-2)).bind fun q20 => un2 q20 fun (r19 : Int32) (w18 : Wd) =>
      some (r19, w18)
def fX10_light (w : Wd) (a1 : Int32) (a2 : Int32) : Option (Int32 × Wd) :=
  (if (fX10_isPerson w a1) = 0 then
    some ((-1) : Int32)
  else
    if (fX10_isIn a2 0 1) = 0 then
      some ((-2) : Int32)
    else
      gd_ (ib a1 8) <|
      if (w.1 45 a1.toNatClampNeg) = 6 then
        if a2 = 1 then
          some ((-3) : Int32)
        else
          some (0 : Int32)
      else
        some (0 : Int32) : Option Int32).bind fun (v2 : Int32) =>
  if v2 = 0 then
    lt_ (((w.1 42 7) >>> (a1 &&& 31)) &&& 1) fun (v7 : Int32) =>
    lt_ (upI w 42 7 (((w.1 42 7) &&& (((1 : Int32) <<< (a1 &&& 31)) ^^^ (-1))) ||| (a2 <<< (a1 &&& 31)))) fun (w8 : Wd) =>
    lt_ (upI w8 42 27 0) fun (w10 : Wd) =>
    some (v7, w10)
  else
    (fX10_no w v2).bind fun q14 => un2 q14 fun (r13 : Int32) (w12 : Wd) =>
    some (r13, w12)
def fX10_becomes (w : Wd) (a1 : Int32) (a2 : Int32) : Option (Wd) :=
  gd_ (ib a1 8) <|
  lt_ (upI w 45 (a1.toNatClampNeg) a2) fun (w1 : Wd) =>
  if a2 = 6 then
    lt_ (upI w1 42 7 ((w1.1 42 7) &&& (((1 : Int32) <<< (a1 &&& 31)) ^^^ (-1)))) fun (w4 : Wd) =>
    some w4
  else
    some w1
def fX10_kind (w : Wd) (a1 : Int32) (a2 : Int32) (a3 : Int32) : Option (Int32 × Wd) :=
  lt_ (if (fX10_isPerson w a1) = 0 then
    ((-1) : Int32)
  else
    if (fX10_isIn a2 0 6) = 0 then
      ((-2) : Int32)
    else
      fX10_bound a3 0 9 : Int32) fun (v1 : Int32) =>
  if v1 = 0 then
    gd_ (ib a1 8) <|
    lt_ ((10 * (w.1 45 a1.toNatClampNeg)) + (w.1 46 a1.toNatClampNeg)) fun (v4 : Int32) =>
    (fX10_becomes w a1 a2).bind fun (w5 : Wd) =>
    lt_ (upI w5 46 (a1.toNatClampNeg) a3) fun (w7 : Wd) =>
    lt_ (upI w7 42 27 0) fun (w9 : Wd) =>
    some (v4, w9)
  else
    (fX10_no w v1).bind fun q13 => un2 q13 fun (r12 : Int32) (w11 : Wd) =>
    some (r12, w11)
def fX10_isPlace (a0 : Int32) : Int32 :=
  if a0 < 0 then
    (0 : Int32)
  else
    if (24 : Int32) < a0 then
      (0 : Int32)
    else
      (1 : Int32)
def fX10_wind (w : Wd) (a1 : Int32) (a2 : Int32) : Option (Int32 × Wd) :=
  if (fX10_isPlace a1) = 0 then
    (fX10_no w (-1)).bind fun q3 => un2 q3 fun (r2 : Int32) (w1 : Wd) =>
    some (r2, w1)
  else
    if (fX10_isIn a2 0 1) = 0 then
      (fX10_no w (-2)).bind fun q7 => un2 q7 fun (r6 : Int32) (w5 : Wd) =>
      some (r6, w5)
    else
      if a2 = 0 then
        gd_ (ib a1 25) <|
        some (w.1 47 a1.toNatClampNeg, w)
      else
        gd_ (ib a1 25) <|
        some (w.1 48 a1.toNatClampNeg, w)
def fX10_blows (w : Wd) (a1 : Int32) (a2 : Int32) (a3 : Int32) : Option (Int32 × Wd) :=
  lt_ (if (fX10_isPlace a1) = 0 then
    ((-1) : Int32)
  else
    if a2 < 0 then
      ((-4) : Int32)
    else
      if (0 : Int32) ≤ a3 then
        if (9 : Int32) < a2 then
          ((-6) : Int32)
        else
          if a3 ≤ 2 then
            (0 : Int32)
          else
            ((-6) : Int32)
      else
        ((-4) : Int32) : Int32) fun (v1 : Int32) =>
  if v1 = 0 then
    gd_ (ib a1 25) <|
    lt_ ((10 * (w.1 47 a1.toNatClampNeg)) + (w.1 48 a1.toNatClampNeg)) fun (v7 : Int32) =>
    lt_ (upI w 47 (a1.toNatClampNeg) a2) fun (w8 : Wd) =>
    lt_ (upI w8 48 (a1.toNatClampNeg) a3) fun (w10 : Wd) =>
    lt_ (upI w10 42 27 0) fun (w12 : Wd) =>
    some (v7, w12)
  else
    (fX10_no w v1).bind fun q16 => un2 q16 fun (r15 : Int32) (w14 : Wd) =>
    some (r15, w14)
def fX10_set_j59 (a1 : Int32) (a2 : Int32) (w6 : Wd) (l5 : Int32) : Option (Int32 × Wd) :=
  if l5 = 0 then
    gd_ (ib a1 3) <|
    lt_ (w6.1 44 a1.toNatClampNeg) fun (v8 : Int32) =>
    lt_ (upI w6 44 (a1.toNatClampNeg) a2) fun (w9 : Wd) =>
    lt_ (upI w9 42 27 0) fun (w11 : Wd) =>
    some (v8, w11)
  else
    (fX10_no w6 l5).bind fun q15 => un2 q15 fun (r14 : Int32) (w13 : Wd) =>
    some (r14, w13)
def fX10_set (w : Wd) (a1 : Int32) (a2 : Int32) : Option (Int32 × Wd) :=
  lt_ (if (fX10_isIn a1 0 2) = 0 then
    ((-2) : Int32)
  else
    if a1 = 0 then
      if a1 = 2 then
        fX10_bound a2 0 24
      else
        fX10_bound a2 0 2
    else
      if a1 = 2 then
        fX10_bound a2 1 24
      else
        fX10_bound a2 1 2 : Int32) fun (v1 : Int32) =>
  if v1 = 0 then
    if a1 = 2 then
      if (w.1 42 8) ≤ a2 then
        fX10_set_j59 a1 a2 w v1
      else
        fX10_set_j59 a1 a2 w (-3)
    else
      fX10_set_j59 a1 a2 w v1
  else
    fX10_set_j59 a1 a2 w v1
def fX10_beside (w : Wd) (a1 : Int32) : Option (Int32 × Wd) :=
  if (fX10_isPerson w a1) = 0 then
    (fX10_no w (-1)).bind fun q3 => un2 q3 fun (r2 : Int32) (w1 : Wd) =>
    some (r2, w1)
  else
    some (fX10_besideBits w a1, w)
def fX10_covers_j24 (w1 : Wd) : Option (Int32 × Wd) :=
  (fX10_no w1 (-1)).bind fun q4 => un2 q4 fun (r3 : Int32) (w2 : Wd) =>
  some (r3, w2)
def fX10_covers (w : Wd) (a1 : Int32) (a2 : Int32) : Option (Int32 × Wd) :=
  if (fX10_isPerson w a1) = 0 then
    fX10_covers_j24 w
  else
    if (fX10_isPlace a2) = 0 then
      fX10_covers_j24 w
    else
      (fX10_coverer w a1 a2).bind fun (r6 : Int32) =>
      some (r6, w)
def fX10_back_b46 (l11 : Int32) (w12 : Wd) : Option ((Int32 × Wd) ⊕ (Wd)) :=
  if (7 : Int32) ≤ l11 then
    some (.inr w12)
  else
    gd_ (ib (l11 + 1) 8) <|
    gd_ (ib l11 8) <|
    lt_ (upI w12 56 (l11.toNatClampNeg) (w12.1 56 (l11 + 1).toNatClampNeg)) fun (w15 : Wd) =>
    lt_ (upI w15 57 (l11.toNatClampNeg) (w15.1 57 (l11 + 1).toNatClampNeg)) fun (w18 : Wd) =>
    lt_ (upI w18 58 (l11.toNatClampNeg) (w18.1 58 (l11 + 1).toNatClampNeg)) fun (w20 : Wd) =>
    lt_ (l11 + 1) fun (v22 : Int32) =>
    some (.inl (v22, w20))
def fX10_back (w : Wd) : Option (Int32 × Wd) :=
  if (w.1 42 27) = 0 then
    (fX10_no w (-3)).bind fun q3 => un2 q3 fun (r2 : Int32) (w1 : Wd) =>
    some (r2, w1)
  else
    lt_ (upI w 42 7 (w.1 56 0)) fun (w5 : Wd) =>
    lt_ (upI w5 42 8 (w5.1 57 0)) fun (w7 : Wd) =>
    lt_ (upI w7 42 9 (w7.1 58 0)) fun (w9 : Wd) =>
    (iter (fun s : Int32 × Wd => fX10_back_b46 s.1 s.2) FU (0, w9)).bind fun (w25 : Wd) =>
    lt_ (upI w25 42 27 ((w25.1 42 27) - 1)) fun (w27 : Wd) =>
    some (w27.1 42 8, w27)
def fX10_keepsMinute_b3 (l1 : Int32) (w2 : Wd) : Option ((Int32 × Wd) ⊕ (Wd)) :=
  if l1 ≤ 0 then
    some (.inr w2)
  else
    gd_ (ib (l1 - 1) 8) <|
    gd_ (ib l1 8) <|
    lt_ (upI w2 56 (l1.toNatClampNeg) (w2.1 56 (l1 - 1).toNatClampNeg)) fun (w5 : Wd) =>
    lt_ (upI w5 57 (l1.toNatClampNeg) (w5.1 57 (l1 - 1).toNatClampNeg)) fun (w8 : Wd) =>
    lt_ (upI w8 58 (l1.toNatClampNeg) (w8.1 58 (l1 - 1).toNatClampNeg)) fun (w10 : Wd) =>
    lt_ (l1 + (-1)) fun (v12 : Int32) =>
    some (.inl (v12, w10))
def fX10_keepsMinute_j106 (w24 : Wd) (l23 : Int32) : Option (Wd) :=
  lt_ (upI w24 42 27 l23) fun (w25 : Wd) =>
  some w25
def fX10_keepsMinute (w : Wd) : Option (Wd) :=
  (iter (fun s : Int32 × Wd => fX10_keepsMinute_b3 s.1 s.2) FU (7, w)).bind fun (w15 : Wd) =>
  lt_ (upI w15 56 0 (w15.1 42 7)) fun (w17 : Wd) =>
  lt_ (upI w17 57 0 (w17.1 42 8)) fun (w19 : Wd) =>
  lt_ (upI w19 58 0 (w19.1 42 9)) fun (w21 : Wd) =>
  if (8 : Int32) ≤ (w21.1 42 27) then
    fX10_keepsMinute_j106 w21 8
  else
    fX10_keepsMinute_j106 w21 ((w21.1 42 27) + 1)
def fX10_bits_b4 (a0 : Int32) (l1 : Int32) (l2 : Int32) : Option ((Int32 × Int32) ⊕ (Int32)) :=
  if (31 : Int32) ≤ l2 then
    some (.inr l1)
  else
    lt_ (l1 + ((a0 >>> (l2 &&& 31)) &&& 1)) fun (v4 : Int32) =>
    lt_ (l2 + 1) fun (v5 : Int32) =>
    some (.inl (v4, v5))
def fX10_bits (a0 : Int32) : Option (Int32) :=
  (iter (fun s : Int32 × Int32 => fX10_bits_b4 a0 s.1 s.2) FU (0, 0)).bind fun (l8 : Int32) =>
  some l8
def fX10_go (w : Wd) (a1 : Int32) : Option (Int32 × Wd) :=
  lt_ (if (fX10_isIn a1 0 1) = 0 then
    ((-2) : Int32)
  else
    if (w.1 42 8) = (fX10_doorAt w) then
      ((-3) : Int32)
    else
      if (w.1 42 9) = 999 then
        ((-6) : Int32)
      else
        (0 : Int32) : Int32) fun (v1 : Int32) =>
  if v1 = 0 then
    (fX10_keepsMinute w).bind fun (w4 : Wd) =>
    lt_ (if a1 = 1 then
      (1 : Int32)
    else
      (0 : Int32) : Int32) fun (v6 : Int32) =>
    (fX10_goes w4 v6).bind fun (w7 : Wd) =>
    (fX10_bits (w7.1 42 7)).bind fun (r9 : Int32) =>
    some (r9, w7)
  else
    (fX10_no w v1).bind fun q12 => un2 q12 fun (r11 : Int32) (w10 : Wd) =>
    some (r11, w10)
def fX10_lit (w : Wd) : Int32 :=
  w.1 42 7
def fX10_goesAhead_b2 (a1 : Int32) (l1 : Int32) (w2 : Wd) : Option ((Int32 × Wd) ⊕ (Wd)) :=
  if a1 ≤ l1 then
    some (.inr w2)
  else
    if (fX10_doorAt w2) ≤ (w2.1 42 8) then
      some (.inr w2)
    else
      (fX10_goes w2 0).bind fun (w5 : Wd) =>
      lt_ (l1 + 1) fun (v7 : Int32) =>
      some (.inl (v7, w5))
def fX10_goesAhead (w : Wd) (a1 : Int32) : Option (Wd) :=
  (iter (fun s : Int32 × Wd => fX10_goesAhead_b2 a1 s.1 s.2) FU (0, w)).bind fun (w11 : Wd) =>
  some w11
def fX10_then (w : Wd) (a1 : Int32) : Option (Int32 × Wd) :=
  lt_ (fX10_bound a1 0 24) fun (v1 : Int32) =>
  if v1 = 0 then
    (fX10_passesAll w 1 1).bind fun (w2 : Wd) =>
    (fX10_goesAhead w2 a1).bind fun (w4 : Wd) =>
    lt_ (w4.1 42 7) fun (v6 : Int32) =>
    (fX10_passesAll w4 1 0).bind fun (w7 : Wd) =>
    some (v6, w7)
  else
    (fX10_no w v1).bind fun q11 => un2 q11 fun (r10 : Int32) (w9 : Wd) =>
    some (r10, w9)
def fX10_goesToDoor_b0 (w1 : Wd) : Option ((Wd) ⊕ (Wd)) :=
  if (fX10_doorAt w1) ≤ (w1.1 42 8) then
    some (.inr w1)
  else
    (fX10_goes w1 0).bind fun (w3 : Wd) =>
    some (.inl w3)
def fX10_goesToDoor (w : Wd) : Option (Wd) :=
  (iter (fun s : Wd => fX10_goesToDoor_b0 s) FU w).bind fun (w7 : Wd) =>
  some w7
def fX10_atDoor (w : Wd) : Option (Int32 × Wd) :=
  (fX10_passesAll w 2 1).bind fun (w1 : Wd) =>
  (fX10_goesToDoor w1).bind fun (w3 : Wd) =>
  lt_ (w3.1 42 7) fun (v5 : Int32) =>
  (fX10_passesAll w3 2 0).bind fun (w6 : Wd) =>
  some (v5, w6)
def fX10_lightOf_b4 (w : Wd) (a1 : Int32) (l1 : Int32) (l2 : Int32) : Option ((Int32 × Int32) ⊕ (Int32)) :=
  if (w.1 42 6) ≤ l2 then
    some (.inr l1)
  else
    (if (fX10_has a1 l2) = 0 then
      some (0 : Int32)
    else
      gd_ (ib l2 8) <|
      some (fX10_givesOf (w.1 45 l2.toNatClampNeg)) : Option Int32).bind fun (v5 : Int32) =>
    lt_ (l1 + v5) fun (v7 : Int32) =>
    lt_ (l2 + 1) fun (v8 : Int32) =>
    some (.inl (v7, v8))
def fX10_lightOf (w : Wd) (a1 : Int32) : Option (Int32) :=
  (iter (fun s : Int32 × Int32 => fX10_lightOf_b4 w a1 s.1 s.2) FU (0, 0)).bind fun (l11 : Int32) =>
  some l11
def fX10_door (w : Wd) (a1 : Int32) : Option (Int32 × Wd) :=
  if (fX10_isIn a1 0 2) = 0 then
    (fX10_no w (-2)).bind fun q3 => un2 q3 fun (r2 : Int32) (w1 : Wd) =>
    some (r2, w1)
  else
    (fX10_atDoor w).bind fun q7 => un2 q7 fun (r6 : Int32) (w5 : Wd) =>
    if a1 = 0 then
      some (r6, w5)
    else
      if a1 = 1 then
        (fX10_bits r6).bind fun (r9 : Int32) =>
        some (r9, w5)
      else
        (fX10_lightOf w5 r6).bind fun (r10 : Int32) =>
        some (r10, w5)
def fX10_dark_b44 (l8 : Int32) (l9 : Int32) (l10 : Int32) (l11 : Int32) (w12 : Wd) : Option ((Int32 × Int32 × Int32 × Int32 × Wd) ⊕ (Int32 × Int32 × Wd)) :=
  if (fX10_doorAt w12) ≤ (w12.1 42 8) then
    some (.inr (l8, l10, w12))
  else
    (fX10_goes w12 0).bind fun (w14 : Wd) =>
    lt_ (if (w14.1 42 7) = 0 then
      l9 + 1
    else
      (0 : Int32) : Int32) fun (v16 : Int32) =>
    lt_ (if v16 ≤ l10 then
      l10
    else
      v16 : Int32) fun (v17 : Int32) =>
    lt_ (if (w14.1 42 7) = 0 then
      if (0 : Int32) ≤ l8 then
        l8
      else
        l11
    else
      l8 : Int32) fun (v18 : Int32) =>
    lt_ (l11 + 1) fun (v20 : Int32) =>
    some (.inl (v18, v16, v17, v20, w14))
def fX10_dark (w : Wd) (a1 : Int32) : Option (Int32 × Wd) :=
  if (fX10_isIn a1 0 1) = 0 then
    (fX10_no w (-2)).bind fun q3 => un2 q3 fun (r2 : Int32) (w1 : Wd) =>
    some (r2, w1)
  else
    (fX10_passesAll w 1 1).bind fun (w5 : Wd) =>
    lt_ (if (w5.1 42 7) = 0 then
      (0 : Int32)
    else
      ((-9) : Int32) : Int32) fun (v7 : Int32) =>
    (iter (fun s : Int32 × Int32 × Int32 × Int32 × Wd => fX10_dark_b44 s.1 s.2.1 s.2.2.1 s.2.2.2.1 s.2.2.2.2) FU (v7, 0, 0, 1, w5)).bind fun x22 => un3 x22 fun (l23 : Int32) (l24 : Int32) (w25 : Wd) =>
    (fX10_passesAll w25 1 0).bind fun (w27 : Wd) =>
    if a1 = 0 then
      some (l23, w27)
    else
      some (l24, w27)
def fX10_darkEnds_b8 (a1 : Int32) (l3 : Int32) (w4 : Wd) : Option ((Int32 × Wd) ⊕ (Int32 × Wd)) :=
  if (fX10_doorAt w4) ≤ (w4.1 42 8) then
    some (.inr (l3, w4))
  else
    (fX10_goes w4 0).bind fun (w6 : Wd) =>
    lt_ (if (fX10_has (w6.1 42 7) a1) = 0 then
      (1 : Int32)
    else
      (0 : Int32) : Int32) fun (v8 : Int32) =>
    lt_ (l3 + v8) fun (v9 : Int32) =>
    some (.inl (v9, w6))
def fX10_darkEnds (w : Wd) (a1 : Int32) : Option (Int32 × Wd) :=
  (fX10_passesAll w 2 1).bind fun (w1 : Wd) =>
  (iter (fun s : Int32 × Wd => fX10_darkEnds_b8 a1 s.1 s.2) FU (0, w1)).bind fun x11 => un2 x11 fun (l12 : Int32) (w13 : Wd) =>
  (fX10_passesAll w13 2 0).bind fun (w15 : Wd) =>
  some (l12, w15)
def fX10_darkFor (w : Wd) (a1 : Int32) : Option (Int32 × Wd) :=
  if (fX10_isPerson w a1) = 0 then
    (fX10_no w (-1)).bind fun q3 => un2 q3 fun (r2 : Int32) (w1 : Wd) =>
    some (r2, w1)
  else
    (fX10_darkEnds w a1).bind fun q7 => un2 q7 fun (r6 : Int32) (w5 : Wd) =>
    some (r6, w5)
def fX10_litBy_b39 (l4 : Int32) (w5 : Wd) : Option ((Int32 × Wd) ⊕ (Wd)) :=
  if (8 : Int32) ≤ l4 then
    some (.inr w5)
  else
    gd_ (ib l4 8) <|
    lt_ (upI w5 54 (l4.toNatClampNeg) (-9)) fun (w7 : Wd) =>
    lt_ (l4 + 1) fun (v10 : Int32) =>
    some (.inl (v10, w7))
def fX10_litBy (w : Wd) (a1 : Int32) (a2 : Int32) : Option (Int32 × Wd) :=
  lt_ (if (fX10_isPerson w a1) = 0 then
    ((-1) : Int32)
  else
    fX10_bound a2 0 24 : Int32) fun (v1 : Int32) =>
  if v1 = 0 then
    (fX10_passesAll w 1 1).bind fun (w2 : Wd) =>
    (iter (fun s : Int32 × Wd => fX10_litBy_b39 s.1 s.2) FU (0, w2)).bind fun (w13 : Wd) =>
    (fX10_goesAhead w13 a2).bind fun (w15 : Wd) =>
    (fX10_passesAll w15 1 0).bind fun (w17 : Wd) =>
    gd_ (ib a1 8) <|
    some (w17.1 54 a1.toNatClampNeg, w17)
  else
    (fX10_no w v1).bind fun q22 => un2 q22 fun (r21 : Int32) (w20 : Wd) =>
    some (r21, w20)
def fX10_stopBy_b19 (a2 : Int32) (a1 : Int32) (l5 : Int32) (w6 : Wd) : Option ((Int32 × Wd) ⊕ (Wd)) :=
  if a2 ≤ l5 then
    some (.inr w6)
  else
    if (w6.1 42 8) = a1 then
      (fX10_goes w6 1).bind fun (w8 : Wd) =>
      lt_ (l5 + 1) fun (v10 : Int32) =>
      some (.inl (v10, w8))
    else
      some (.inr w6)
def fX10_stopBy_j43 (w17 : Wd) : Option ((Wd) ⊕ (Wd)) :=
  (fX10_goes w17 0).bind fun (w18 : Wd) =>
  some (.inl w18)
def fX10_stopBy_b6 (a2 : Int32) (a1 : Int32) (w3 : Wd) : Option ((Wd) ⊕ (Wd)) :=
  if (fX10_doorAt w3) ≤ (w3.1 42 8) then
    some (.inr w3)
  else
    (iter (fun s : Int32 × Wd => fX10_stopBy_b19 a2 a1 s.1 s.2) FU (0, w3)).bind fun (w15 : Wd) =>
    fX10_stopBy_j43 w15
def fX10_stopBy (w : Wd) (a1 : Int32) (a2 : Int32) : Option (Int32 × Wd) :=
  (fX10_passesAll w 2 1).bind fun (w1 : Wd) =>
  (iter (fun s : Wd => fX10_stopBy_b6 a2 a1 s) FU w1).bind fun (w22 : Wd) =>
  (fX10_bits (w22.1 42 7)).bind fun (r24 : Int32) =>
  (fX10_passesAll w22 2 0).bind fun (w25 : Wd) =>
  some (r24, w25)
def fX10_stop_b25 (l8 : Int32) (l12 : Int32) (l13 : Int32) (l14 : Int32) (w15 : Wd) : Option ((Int32 × Int32 × Int32 × Wd) ⊕ (Int32 × Int32 × Wd)) :=
  if (fX10_doorAt w15) ≤ l14 then
    some (.inr (l12, l13, w15))
  else
    (fX10_stopBy w15 l14 l8).bind fun q19 => un2 q19 fun (r18 : Int32) (w17 : Wd) =>
    if l12 < r18 then
      lt_ ((10 * l14) + l8) fun (v21 : Int32) =>
      lt_ (l14 + 1) fun (v22 : Int32) =>
      some (.inl (r18, v21, v22, w17))
    else
      lt_ (l14 + 1) fun (v23 : Int32) =>
      some (.inl (l12, l13, v23, w17))
def fX10_stop_b13 (l6 : Int32) (l7 : Int32) (l8 : Int32) (w9 : Wd) : Option ((Int32 × Int32 × Int32 × Wd) ⊕ (Int32 × Wd)) :=
  if (6 : Int32) ≤ l8 then
    some (.inr (l7, w9))
  else
    lt_ (w9.1 42 8) fun (v11 : Int32) =>
    (iter (fun s : Int32 × Int32 × Int32 × Wd => fX10_stop_b25 l8 s.1 s.2.1 s.2.2.1 s.2.2.2) FU (l6, l7, v11, w9)).bind fun x26 => un3 x26 fun (l27 : Int32) (l28 : Int32) (w29 : Wd) =>
    lt_ (l8 + 1) fun (v31 : Int32) =>
    some (.inl (l27, l28, v31, w29))
def fX10_stop (w : Wd) : Option (Int32 × Wd) :=
  (fX10_atDoor w).bind fun q3 => un2 q3 fun (r2 : Int32) (w1 : Wd) =>
  (fX10_bits r2).bind fun (r5 : Int32) =>
  (iter (fun s : Int32 × Int32 × Int32 × Wd => fX10_stop_b13 s.1 s.2.1 s.2.2.1 s.2.2.2) FU (r5, (-9), 1, w1)).bind fun x33 => un2 x33 fun (l34 : Int32) (w35 : Wd) =>
  some (l34, w35)
def fX10_lower_b14 (l6 : Int32) (l7 : Int32) (l8 : Int32) (w9 : Wd) : Option ((Int32 × Int32 × Int32 × Wd) ⊕ (Int32 × Wd)) :=
  if (w9.1 42 6) ≤ l8 then
    some (.inr (l7, w9))
  else
    (fX10_passesAll w9 1 1).bind fun (w11 : Wd) =>
    gd_ (ib l8 8) <|
    lt_ (upI w11 45 (l8.toNatClampNeg) 2) fun (w13 : Wd) =>
    (fX10_atDoor w13).bind fun q18 => un2 q18 fun (r17 : Int32) (w16 : Wd) =>
    (fX10_lightOf w16 r17).bind fun (r20 : Int32) =>
    (fX10_passesAll w16 1 0).bind fun (w21 : Wd) =>
    if l6 < r20 then
      lt_ (l8 + 1) fun (v23 : Int32) =>
      some (.inl (r20, l8, v23, w21))
    else
      lt_ (l8 + 1) fun (v24 : Int32) =>
      some (.inl (l6, l7, v24, w21))
def fX10_lower (w : Wd) : Option (Int32 × Wd) :=
  (fX10_atDoor w).bind fun q3 => un2 q3 fun (r2 : Int32) (w1 : Wd) =>
  (fX10_lightOf w1 r2).bind fun (r5 : Int32) =>
  (iter (fun s : Int32 × Int32 × Int32 × Wd => fX10_lower_b14 s.1 s.2.1 s.2.2.1 s.2.2.2) FU (r5, (-9), 0, w1)).bind fun x27 => un2 x27 fun (l28 : Int32) (w29 : Wd) =>
  some (l28, w29)
def fX10_exchanges (w : Wd) (a1 : Int32) (a2 : Int32) : Option (Wd) :=
  gd_ (ib a1 8) <|
  lt_ (w.1 45 a1.toNatClampNeg) fun (v2 : Int32) =>
  lt_ (w.1 46 a1.toNatClampNeg) fun (v3 : Int32) =>
  lt_ ((((w.1 42 7) >>> (a1 &&& 31)) ^^^ ((w.1 42 7) >>> (a2 &&& 31))) &&& 1) fun (v4 : Int32) =>
  gd_ (ib a2 8) <|
  lt_ (upI w 45 (a1.toNatClampNeg) (w.1 45 a2.toNatClampNeg)) fun (w6 : Wd) =>
  lt_ (upI w6 46 (a1.toNatClampNeg) (w6.1 46 a2.toNatClampNeg)) fun (w8 : Wd) =>
  lt_ (upI w8 45 (a2.toNatClampNeg) v2) fun (w10 : Wd) =>
  lt_ (upI w10 46 (a2.toNatClampNeg) v3) fun (w12 : Wd) =>
  lt_ (upI w12 42 7 ((w12.1 42 7) ^^^ ((v4 <<< (a1 &&& 31)) ||| (v4 <<< (a2 &&& 31))))) fun (w14 : Wd) =>
  some w14
def fX10_changed_b26 (l8 : Int32) (l12 : Int32) (l13 : Int32) (l14 : Int32) (w15 : Wd) : Option ((Int32 × Int32 × Int32 × Wd) ⊕ (Int32 × Int32 × Wd)) :=
  if (w15.1 42 6) ≤ l14 then
    some (.inr (l12, l13, w15))
  else
    (fX10_passesAll w15 1 1).bind fun (w17 : Wd) =>
    (fX10_exchanges w17 l8 l14).bind fun (w19 : Wd) =>
    (fX10_atDoor w19).bind fun q23 => un2 q23 fun (r22 : Int32) (w21 : Wd) =>
    (fX10_bits r22).bind fun (r25 : Int32) =>
    (fX10_passesAll w21 1 0).bind fun (w26 : Wd) =>
    if l12 < r25 then
      lt_ ((10 * l8) + l14) fun (v28 : Int32) =>
      lt_ (l14 + 1) fun (v29 : Int32) =>
      some (.inl (r25, v28, v29, w26))
    else
      lt_ (l14 + 1) fun (v30 : Int32) =>
      some (.inl (l12, l13, v30, w26))
def fX10_changed_b13 (l6 : Int32) (l7 : Int32) (l8 : Int32) (w9 : Wd) : Option ((Int32 × Int32 × Int32 × Wd) ⊕ (Int32 × Wd)) :=
  if (w9.1 42 6) ≤ l8 then
    some (.inr (l7, w9))
  else
    lt_ (l8 + 1) fun (v11 : Int32) =>
    (iter (fun s : Int32 × Int32 × Int32 × Wd => fX10_changed_b26 l8 s.1 s.2.1 s.2.2.1 s.2.2.2) FU (l6, l7, v11, w9)).bind fun x33 => un3 x33 fun (l34 : Int32) (l35 : Int32) (w36 : Wd) =>
    lt_ (l8 + 1) fun (v38 : Int32) =>
    some (.inl (l34, l35, v38, w36))
def fX10_changed (w : Wd) : Option (Int32 × Wd) :=
  (fX10_atDoor w).bind fun q3 => un2 q3 fun (r2 : Int32) (w1 : Wd) =>
  (fX10_bits r2).bind fun (r5 : Int32) =>
  (iter (fun s : Int32 × Int32 × Int32 × Wd => fX10_changed_b13 s.1 s.2.1 s.2.2.1 s.2.2.2) FU (r5, (-9), 0, w1)).bind fun x40 => un2 x40 fun (l41 : Int32) (w42 : Wd) =>
  some (l41, w42)
def fX10_tellsOrder_b12 (l2 : Int32) (l3 : Int32) (l4 : Int32) (w5 : Wd) : Option ((Int32 × Int32 × Int32 × Wd) ⊕ (Int32 × Wd)) :=
  if l4 < 0 then
    some (.inr (l3, w5))
  else
    gd_ (!((w5.1 42 6) == 0)) <|
    gd_ (ib l4 6) <|
    lt_ (upI w5 59 (l4.toNatClampNeg) (jrem l2 (w5.1 42 6))) fun (w8 : Wd) =>
    gd_ (!((w8.1 42 6) == 0)) <|
    lt_ (l2 / (w8.1 42 6)) fun (v12 : Int32) =>
    lt_ (l3 ||| ((1 : Int32) <<< ((w8.1 59 l4.toNatClampNeg) &&& 31))) fun (v13 : Int32) =>
    lt_ (l4 + (-1)) fun (v14 : Int32) =>
    some (.inl (v12, v13, v14, w8))
def fX10_tellsOrder (w : Wd) (a1 : Int32) : Option (Int32 × Wd) :=
  lt_ ((w.1 42 6) - 1) fun (v1 : Int32) =>
  (iter (fun s : Int32 × Int32 × Int32 × Wd => fX10_tellsOrder_b12 s.1 s.2.1 s.2.2.1 s.2.2.2) FU (a1, 0, v1, w)).bind fun x16 => un2 x16 fun (l17 : Int32) (w18 : Wd) =>
  (fX10_bits l17).bind fun (r20 : Int32) =>
  if r20 = (w18.1 42 6) then
    some (1, w18)
  else
    some (0, w18)
def fX10_doorBy_b2 (a1 : Int32) (l1 : Int32) (w2 : Wd) : Option ((Int32 × Wd) ⊕ (Wd)) :=
  if (w2.1 42 6) ≤ l1 then
    some (.inr w2)
  else
    gd_ (ib l1 6) <|
    gd_ (ib (w2.1 59 l1.toNatClampNeg) 8) <|
    gd_ (ib l1 8) <|
    lt_ (upI w2 45 (l1.toNatClampNeg) (w2.1 61 (w2.1 59 l1.toNatClampNeg).toNatClampNeg)) fun (w6 : Wd) =>
    gd_ (ib (w6.1 59 l1.toNatClampNeg) 8) <|
    lt_ (upI w6 46 (l1.toNatClampNeg) (w6.1 62 (w6.1 59 l1.toNatClampNeg).toNatClampNeg)) fun (w10 : Wd) =>
    lt_ (upI w10 42 7 (((w10.1 42 7) &&& (((1 : Int32) <<< (l1 &&& 31)) ^^^ (-1))) ||| (((a1 >>> ((w10.1 59 l1.toNatClampNeg) &&& 31)) &&& 1) <<< (l1 &&& 31)))) fun (w12 : Wd) =>
    lt_ (l1 + 1) fun (v14 : Int32) =>
    some (.inl (v14, w12))
def fX10_doorBy (w : Wd) (a1 : Int32) : Option (Int32 × Wd) :=
  (iter (fun s : Int32 × Wd => fX10_doorBy_b2 a1 s.1 s.2) FU (0, w)).bind fun (w17 : Wd) =>
  (fX10_atDoor w17).bind fun q21 => un2 q21 fun (r20 : Int32) (w19 : Wd) =>
  (fX10_bits r20).bind fun (r23 : Int32) =>
  some (r23, w19)
def fX10_order_b65 (l6 : Int32) (l7 : Int32) (w8 : Wd) : Option ((Int32 × Int32 × Wd) ⊕ (Int32 × Wd)) :=
  if (w8.1 42 6) ≤ l7 then
    some (.inr (l6, w8))
  else
    gd_ (ib l7 8) <|
    lt_ (upI w8 61 (l7.toNatClampNeg) (w8.1 45 l7.toNatClampNeg)) fun (w11 : Wd) =>
    lt_ (upI w11 62 (l7.toNatClampNeg) (w11.1 46 l7.toNatClampNeg)) fun (w13 : Wd) =>
    lt_ (l6 * (w13.1 42 6)) fun (v15 : Int32) =>
    lt_ (l7 + 1) fun (v16 : Int32) =>
    some (.inl (v15, v16, w13))
def fX10_order_b163 (l35 : Int32) (w36 : Wd) : Option ((Int32 × Wd) ⊕ (Wd)) :=
  if (w36.1 42 6) ≤ l35 then
    some (.inr w36)
  else
    gd_ (ib l35 6) <|
    lt_ (upI w36 60 (l35.toNatClampNeg) (w36.1 59 l35.toNatClampNeg)) fun (w39 : Wd) =>
    lt_ (l35 + 1) fun (v41 : Int32) =>
    some (.inl (v41, w39))
def fX10_order_b120 (l19 : Int32) (v5 : Int32) (l22 : Int32) (l23 : Int32) (w24 : Wd) : Option ((Int32 × Int32 × Wd) ⊕ (Int32 × Wd)) :=
  if l19 ≤ l23 then
    some (.inr (l22, w24))
  else
    (fX10_tellsOrder w24 l23).bind fun q28 => un2 q28 fun (r27 : Int32) (w26 : Wd) =>
    if r27 = 0 then
      lt_ (l23 + 1) fun (v30 : Int32) =>
      some (.inl (l22, v30, w26))
    else
      (fX10_doorBy w26 v5).bind fun q33 => un2 q33 fun (r32 : Int32) (w31 : Wd) =>
      if l22 < r32 then
        (iter (fun s : Int32 × Wd => fX10_order_b163 s.1 s.2) FU (0, w31)).bind fun (w44 : Wd) =>
        lt_ (l23 + 1) fun (v46 : Int32) =>
        some (.inl (r32, v46, w44))
      else
        lt_ (l23 + 1) fun (v47 : Int32) =>
        some (.inl (l22, v47, w31))
def fX10_order_b215 (w55 : Wd) (l58 : Int32) (l59 : Int32) : Option ((Int32 × Int32) ⊕ (Int32)) :=
  if l59 < 0 then
    some (.inr l58)
  else
    gd_ (ib l59 6) <|
    lt_ ((10 * l58) + (w55.1 60 l59.toNatClampNeg)) fun (v62 : Int32) =>
    lt_ (l59 + (-1)) fun (v63 : Int32) =>
    some (.inl (v62, v63))
def fX10_order (w : Wd) (a1 : Int32) : Option (Int32 × Wd) :=
  lt_ (if (fX10_isIn a1 0 1) = 0 then
    ((-2) : Int32)
  else
    if (fX10_isIn (w.1 42 6) 1 6) = 0 then
      ((-3) : Int32)
    else
      (0 : Int32) : Int32) fun (v1 : Int32) =>
  if v1 = 0 then
    (fX10_passesAll w 1 1).bind fun (w3 : Wd) =>
    lt_ (w3.1 42 7) fun (v5 : Int32) =>
    (iter (fun s : Int32 × Int32 × Wd => fX10_order_b65 s.1 s.2.1 s.2.2) FU (1, 0, w3)).bind fun x18 => un2 x18 fun (l19 : Int32) (w20 : Wd) =>
    (iter (fun s : Int32 × Int32 × Wd => fX10_order_b120 l19 v5 s.1 s.2.1 s.2.2) FU ((-9), 0, w20)).bind fun x51 => un2 x51 fun (l52 : Int32) (w53 : Wd) =>
    (fX10_passesAll w53 1 0).bind fun (w55 : Wd) =>
    lt_ ((w55.1 42 6) - 1) fun (v57 : Int32) =>
    (iter (fun s : Int32 × Int32 => fX10_order_b215 w55 s.1 s.2) FU (0, v57)).bind fun (l66 : Int32) =>
    if a1 = 0 then
      some (l66, w55)
    else
      some (l52, w55)
  else
    (fX10_no w v1).bind fun q70 => un2 q70 fun (r69 : Int32) (w68 : Wd) =>
    some (r69, w68)
def fX10_withLanterns_b8 (a1 : Int32) (l3 : Int32) (w4 : Wd) : Option ((Int32 × Wd) ⊕ (Wd)) :=
  if (w4.1 42 6) ≤ l3 then
    some (.inr w4)
  else
    (if (fX10_has a1 l3) = 0 then
      gd_ (ib l3 8) <|
      some (w4.1 45 l3.toNatClampNeg)
    else
      some (3 : Int32) : Option Int32).bind fun (v7 : Int32) =>
    gd_ (ib l3 8) <|
    lt_ (upI w4 45 (l3.toNatClampNeg) v7) fun (w9 : Wd) =>
    lt_ (l3 + 1) fun (v12 : Int32) =>
    some (.inl (v12, w9))
def fX10_withLanterns_b66 (w19 : Wd) (l23 : Int32) (l24 : Int32) : Option ((Int32 × Int32) ⊕ (Int32)) :=
  if (w19.1 42 6) ≤ l24 then
    some (.inr l23)
  else
    gd_ (ib l24 8) <|
    lt_ (if (w19.1 45 l24.toNatClampNeg) = 6 then
      (1 : Int32) <<< (l24 &&& 31)
    else
      (0 : Int32) : Int32) fun (v27 : Int32) =>
    lt_ (l23 ||| v27) fun (v28 : Int32) =>
    lt_ (l24 + 1) fun (v29 : Int32) =>
    some (.inl (v28, v29))
def fX10_withLanterns (w : Wd) (a1 : Int32) : Option (Int32 × Wd) :=
  (fX10_passesAll w 1 1).bind fun (w1 : Wd) =>
  (iter (fun s : Int32 × Wd => fX10_withLanterns_b8 a1 s.1 s.2) FU (0, w1)).bind fun (w15 : Wd) =>
  lt_ (upI w15 42 7 ((w15.1 42 7) ||| a1)) fun (w17 : Wd) =>
  (fX10_atDoor w17).bind fun q21 => un2 q21 fun (r20 : Int32) (w19 : Wd) =>
  (iter (fun s : Int32 × Int32 => fX10_withLanterns_b66 w19 s.1 s.2) FU (0, 0)).bind fun (l32 : Int32) =>
  lt_ (if (((1 : Int32) <<< ((w19.1 42 6) &&& 31)) - 1) &&& ((r20 ||| l32) ^^^ (-1)) = 0 then
    (1 : Int32)
  else
    (0 : Int32) : Int32) fun (v33 : Int32) =>
  gd_ (bz v33) <|
  lt_ (upI w19 42 32 v33) fun (w34 : Wd) =>
  (fX10_passesAll w34 1 0).bind fun (w37 : Wd) =>
  some (r20, w37)
def fX10_lantern_b47 (l3 : Int32) (l4 : Int32) (l5 : Int32) (w6 : Wd) : Option ((Int32 × Int32 × Int32 × Wd) ⊕ (Int32 × Int32 × Wd)) :=
  if (w6.1 42 6) ≤ l5 then
    some (.inr (l3, l4, w6))
  else
    (fX10_withLanterns w6 ((1 : Int32) <<< (l5 &&& 31))).bind fun q10 => un2 q10 fun (r9 : Int32) (w8 : Wd) =>
    (fX10_bits r9).bind fun (r12 : Int32) =>
    if l4 < r12 then
      lt_ (l5 + 1) fun (v13 : Int32) =>
      some (.inl (l5, r12, v13, w8))
    else
      lt_ (l5 + 1) fun (v14 : Int32) =>
      some (.inl (l3, l4, v14, w8))
def fX10_lantern (w : Wd) (a1 : Int32) : Option (Int32 × Wd) :=
  lt_ (if (fX10_isIn a1 0 1) = 0 then
    ((-2) : Int32)
  else
    if (w.1 42 6) = 0 then
      ((-3) : Int32)
    else
      (0 : Int32) : Int32) fun (v1 : Int32) =>
  if v1 = 0 then
    (iter (fun s : Int32 × Int32 × Int32 × Wd => fX10_lantern_b47 s.1 s.2.1 s.2.2.1 s.2.2.2) FU (0, (-9), 0, w)).bind fun x17 => un3 x17 fun (l18 : Int32) (l19 : Int32) (w20 : Wd) =>
    if a1 = 0 then
      some (l18, w20)
    else
      some (l19, w20)
  else
    (fX10_no w v1).bind fun q25 => un2 q25 fun (r24 : Int32) (w23 : Wd) =>
    some (r24, w23)
def fX10_fewest_b21 (l5 : Int32) (l6 : Int32) (w7 : Wd) : Option ((Int32 × Int32 × Wd) ⊕ (Int32 × Wd)) :=
  if (1 : Int32) <<< ((w7.1 42 6) &&& 31) ≤ l6 then
    some (.inr (l5, w7))
  else
    (fX10_withLanterns w7 l6).bind fun q11 => un2 q11 fun (r10 : Int32) (w9 : Wd) =>
    if (w9.1 42 32) = 0 then
      lt_ (l6 + 1) fun (v13 : Int32) =>
      some (.inl (l5, v13, w9))
    else
      if l5 < 0 then
        lt_ (l6 + 1) fun (v14 : Int32) =>
        some (.inl (l6, v14, w9))
      else
        (fX10_bits l6).bind fun (r15 : Int32) =>
        (fX10_bits l5).bind fun (r16 : Int32) =>
        if r16 ≤ r15 then
          lt_ (l6 + 1) fun (v17 : Int32) =>
          some (.inl (l5, v17, w9))
        else
          lt_ (l6 + 1) fun (v18 : Int32) =>
          some (.inl (l6, v18, w9))
def fX10_fewest (w : Wd) (a1 : Int32) : Option (Int32 × Wd) :=
  if (fX10_isIn a1 0 1) = 0 then
    (fX10_no w (-2)).bind fun q3 => un2 q3 fun (r2 : Int32) (w1 : Wd) =>
    some (r2, w1)
  else
    (iter (fun s : Int32 × Int32 × Wd => fX10_fewest_b21 s.1 s.2.1 s.2.2) FU ((-9), 0, w)).bind fun x23 => un2 x23 fun (l24 : Int32) (w25 : Wd) =>
    if a1 = 1 then
      some (l24, w25)
    else
      if (0 : Int32) ≤ l24 then
        (fX10_bits l24).bind fun (r27 : Int32) =>
        some (r27, w25)
      else
        some (l24, w25)
def fX10_doorByMatch_j36 (w9 : Wd) (l8 : Int32) : Option ((Int32 × Wd) ⊕ (Wd)) :=
  (fX10_goes w9 0).bind fun (w10 : Wd) =>
  lt_ (l8 + 1) fun (v12 : Int32) =>
  some (.inl (v12, w10))
def fX10_doorByMatch_b8 (a1 : Int32) (a2 : Int32) (l3 : Int32) (w4 : Wd) : Option ((Int32 × Wd) ⊕ (Wd)) :=
  if (fX10_doorAt w4) ≤ (w4.1 42 8) then
    some (.inr w4)
  else
    if l3 = a1 then
      lt_ (upI w4 42 7 ((w4.1 42 7) ||| ((1 : Int32) <<< (a2 &&& 31)))) fun (w6 : Wd) =>
      fX10_doorByMatch_j36 w6 l3
    else
      fX10_doorByMatch_j36 w4 l3
def fX10_doorByMatch (w : Wd) (a1 : Int32) (a2 : Int32) : Option (Int32 × Wd) :=
  (fX10_passesAll w 2 1).bind fun (w1 : Wd) =>
  (iter (fun s : Int32 × Wd => fX10_doorByMatch_b8 a1 a2 s.1 s.2) FU (0, w1)).bind fun (w16 : Wd) =>
  (fX10_bits (w16.1 42 7)).bind fun (r18 : Int32) =>
  (fX10_passesAll w16 2 0).bind fun (w19 : Wd) =>
  some (r18, w19)
def fX10_match_b30 (l9 : Int32) (l12 : Int32) (l13 : Int32) (l14 : Int32) (w15 : Wd) : Option ((Int32 × Int32 × Int32 × Wd) ⊕ (Int32 × Int32 × Wd)) :=
  if (w15.1 42 6) ≤ l14 then
    some (.inr (l12, l13, w15))
  else
    gd_ (ib l14 8) <|
    if (w15.1 45 l14.toNatClampNeg) = 6 then
      lt_ (l14 + 1) fun (v18 : Int32) =>
      some (.inl (l12, l13, v18, w15))
    else
      (fX10_doorByMatch w15 l9 l14).bind fun q21 => un2 q21 fun (r20 : Int32) (w19 : Wd) =>
      if l12 < r20 then
        (fX10_doorByMatch w19 l9 l14).bind fun q25 => un2 q25 fun (r24 : Int32) (w23 : Wd) =>
        lt_ ((10 * l9) + l14) fun (v27 : Int32) =>
        lt_ (l14 + 1) fun (v28 : Int32) =>
        some (.inl (r24, v27, v28, w23))
      else
        lt_ (l14 + 1) fun (v29 : Int32) =>
        some (.inl (l12, l13, v29, w19))
def fX10_match_b23 (l7 : Int32) (l8 : Int32) (l9 : Int32) (w10 : Wd) : Option ((Int32 × Int32 × Int32 × Wd) ⊕ (Int32 × Wd)) :=
  if l9 < 0 then
    some (.inr (l8, w10))
  else
    (iter (fun s : Int32 × Int32 × Int32 × Wd => fX10_match_b30 l9 s.1 s.2.1 s.2.2.1 s.2.2.2) FU (l7, l8, 0, w10)).bind fun x33 => un3 x33 fun (l34 : Int32) (l35 : Int32) (w36 : Wd) =>
    lt_ (l9 + (-1)) fun (v38 : Int32) =>
    some (.inl (l34, l35, v38, w36))
def fX10_match (w : Wd) : Option (Int32 × Wd) :=
  (fX10_atDoor w).bind fun q3 => un2 q3 fun (r2 : Int32) (w1 : Wd) =>
  (fX10_bits r2).bind fun (r5 : Int32) =>
  lt_ (((fX10_doorAt w1) - (w1.1 42 8)) - 1) fun (v6 : Int32) =>
  (iter (fun s : Int32 × Int32 × Int32 × Wd => fX10_match_b23 s.1 s.2.1 s.2.2.1 s.2.2.2) FU (r5, (-9), v6, w1)).bind fun x40 => un2 x40 fun (l41 : Int32) (w42 : Wd) =>
  some (l41, w42)
def fX10_tail_b32 (l11 : Int32) (l12 : Int32) (l13 : Int32) (l14 : Int32) (w15 : Wd) : Option ((Int32 × Int32 × Int32 × Int32 × Wd) ⊕ (Int32 × Wd)) :=
  if (w15.1 42 6) ≤ l14 then
    some (.inr (l11, w15))
  else
    (fX10_passesAll w15 1 1).bind fun (w17 : Wd) =>
    lt_ (upI w17 42 6 ((w17.1 42 6) - l14)) fun (w19 : Wd) =>
    lt_ (upI w19 42 7 ((w19.1 42 7) &&& (((1 : Int32) <<< ((w19.1 42 6) &&& 31)) - 1))) fun (w21 : Wd) =>
    (fX10_atDoor w21).bind fun q25 => un2 q25 fun (r24 : Int32) (w23 : Wd) =>
    (fX10_bits r24).bind fun (r27 : Int32) =>
    lt_ (w23.1 42 6) fun (v28 : Int32) =>
    (fX10_passesAll w23 1 0).bind fun (w29 : Wd) =>
    if (l12 * v28) < (r27 * l13) then
      lt_ (l14 + 1) fun (v31 : Int32) =>
      some (.inl (l14, r27, v28, v31, w29))
    else
      lt_ (l14 + 1) fun (v32 : Int32) =>
      some (.inl (l11, l12, l13, v32, w29))
def fX10_tail (w : Wd) : Option (Int32 × Wd) :=
  if (w.1 42 6) = 0 then
    (fX10_no w (-3)).bind fun q3 => un2 q3 fun (r2 : Int32) (w1 : Wd) =>
    some (r2, w1)
  else
    (fX10_atDoor w).bind fun q7 => un2 q7 fun (r6 : Int32) (w5 : Wd) =>
    (fX10_bits r6).bind fun (r9 : Int32) =>
    lt_ (w5.1 42 6) fun (v10 : Int32) =>
    (iter (fun s : Int32 × Int32 × Int32 × Int32 × Wd => fX10_tail_b32 s.1 s.2.1 s.2.2.1 s.2.2.2.1 s.2.2.2.2) FU (0, r9, v10, 1, w5)).bind fun x35 => un2 x35 fun (l36 : Int32) (w37 : Wd) =>
    some (l36, w37)
def fX10_isSomebodyDark_b2 (w : Wd) (l1 : Int32) : Option ((Int32) ⊕ (Int32)) :=
  if (w.1 42 6) ≤ l1 then
    some (.inr (0 : Int32))
  else
    gd_ (ib l1 8) <|
    if (w.1 45 l1.toNatClampNeg) = 6 then
      lt_ (l1 + 1) fun (v3 : Int32) =>
      some (.inl v3)
    else
      if (fX10_has (w.1 42 7) l1) = 0 then
        some (.inr (1 : Int32))
      else
        lt_ (l1 + 1) fun (v4 : Int32) =>
        some (.inl v4)
def fX10_isSomebodyDark (w : Wd) : Option (Int32) :=
  iter (fun s : Int32 => fX10_isSomebodyDark_b2 w s) FU (0 : Int32)
def fX10_doesStop (w : Wd) (a1 : Int32) : Option (Int32) :=
  if (w.1 42 7) = 0 then
    some (0 : Int32)
  else
    if a1 = 1 then
      (fX10_bits (w.1 42 7)).bind fun (r2 : Int32) =>
      if (w.1 42 6) ≤ (2 * r2) then
        some (0 : Int32)
      else
        some (1 : Int32)
    else if a1 = 2 then
      (fX10_isSomebodyDark w).bind fun (r5 : Int32) =>
      gd_ (bz r5) <|
      some r5
    else if a1 = 3 then
      gd_ (ib (w.1 42 8) 25) <|
      if (2 : Int32) < (w.1 47 (w.1 42 8).toNatClampNeg) then
        some (0 : Int32)
      else
        (fX10_isSomebodyDark w).bind fun (r9 : Int32) =>
        if r9 = 0 then
          some (0 : Int32)
        else
          some (1 : Int32)
    else if a1 = 4 then
      gd_ (ib ((w.1 42 8) + 1) 25) <|
      if (w.1 47 ((w.1 42 8) + 1).toNatClampNeg) ≤ 5 then
        some (0 : Int32)
      else
        (fX10_isSomebodyDark w).bind fun (r14 : Int32) =>
        if r14 = 0 then
          some (0 : Int32)
        else
          some (1 : Int32)
    else 
      some (0 : Int32)
def fX10_goesByRule_b13 (a1 : Int32) (l5 : Int32) (w6 : Wd) : Option ((Int32 × Wd) ⊕ (Wd)) :=
  if (fX10_doorAt w6) ≤ (w6.1 42 8) then
    some (.inr w6)
  else
    (if (5 : Int32) ≤ l5 then
      some (0 : Int32)
    else
      (fX10_doesStop w6 a1).bind fun (r10 : Int32) =>
      if r10 = 0 then
        some (0 : Int32)
      else
        some (1 : Int32) : Option Int32).bind fun (v9 : Int32) =>
    (fX10_goes w6 v9).bind fun (w12 : Wd) =>
    lt_ (if v9 = 0 then
      (0 : Int32)
    else
      l5 + 1 : Int32) fun (v14 : Int32) =>
    lt_ (upI w12 42 34 ((w12.1 42 34) + 1)) fun (w15 : Wd) =>
    some (.inl (v14, w15))
def fX10_goesByRule (w : Wd) (a1 : Int32) : Option (Wd) :=
  (fX10_passesAll w 1 1).bind fun (w1 : Wd) =>
  lt_ (upI w1 42 34 0) fun (w3 : Wd) =>
  (iter (fun s : Int32 × Wd => fX10_goesByRule_b13 a1 s.1 s.2) FU (0, w3)).bind fun (w19 : Wd) =>
  (fX10_bits (w19.1 42 7)).bind fun (r21 : Int32) =>
  lt_ (upI w19 42 33 r21) fun (w22 : Wd) =>
  (fX10_passesAll w22 1 0).bind fun (w24 : Wd) =>
  some w24
def fX10_rule_j18 (w1 : Wd) : Option (Int32 × Wd) :=
  (fX10_no w1 (-2)).bind fun q4 => un2 q4 fun (r3 : Int32) (w2 : Wd) =>
  some (r3, w2)
def fX10_rule (w : Wd) (a1 : Int32) (a2 : Int32) : Option (Int32 × Wd) :=
  if (fX10_isIn a1 0 4) = 0 then
    fX10_rule_j18 w
  else
    if (fX10_isIn a2 0 1) = 0 then
      fX10_rule_j18 w
    else
      (fX10_goesByRule w a1).bind fun (w6 : Wd) =>
      if a2 = 0 then
        some (w6.1 42 33, w6)
      else
        some (w6.1 42 34, w6)
def fX10_best_j59 (w15 : Wd) (l14 : Int32) : Option ((Int32 × Int32 × Int32 × Int32 × Wd) ⊕ (Int32 × Wd)) :=
  lt_ (w15.1 42 33) fun (v16 : Int32) =>
  lt_ (w15.1 42 34) fun (v17 : Int32) =>
  lt_ (l14 + 1) fun (v18 : Int32) =>
  some (.inl (l14, v16, v17, v18, w15))
def fX10_best_b20 (l5 : Int32) (l6 : Int32) (l7 : Int32) (l8 : Int32) (w9 : Wd) : Option ((Int32 × Int32 × Int32 × Int32 × Wd) ⊕ (Int32 × Wd)) :=
  if (5 : Int32) ≤ l8 then
    some (.inr (l5, w9))
  else
    (fX10_goesByRule w9 l8).bind fun (w11 : Wd) =>
    if (w11.1 42 33) < l6 then
      lt_ (l8 + 1) fun (v13 : Int32) =>
      some (.inl (l5, l6, l7, v13, w11))
    else
      if (w11.1 42 33) = l6 then
        if (w11.1 42 34) < l7 then
          fX10_best_j59 w11 l8
        else
          lt_ (l8 + 1) fun (v19 : Int32) =>
          some (.inl (l5, l6, l7, v19, w11))
      else
        fX10_best_j59 w11 l8
def fX10_best (w : Wd) : Option (Int32 × Wd) :=
  (fX10_goesByRule w 0).bind fun (w1 : Wd) =>
  lt_ (w1.1 42 33) fun (v3 : Int32) =>
  lt_ (w1.1 42 34) fun (v4 : Int32) =>
  (iter (fun s : Int32 × Int32 × Int32 × Int32 × Wd => fX10_best_b20 s.1 s.2.1 s.2.2.1 s.2.2.2.1 s.2.2.2.2) FU (0, v3, v4, 1, w1)).bind fun x24 => un2 x24 fun (l25 : Int32) (w26 : Wd) =>
  some (l25, w26)
def fX10_calm (w : Wd) (a1 : Int32) (a2 : Int32) : Option (Int32 × Wd) :=
  lt_ (if a1 < 1 then
    ((-4) : Int32)
  else
    if (0 : Int32) ≤ a2 then
      if (99 : Int32) < a1 then
        ((-6) : Int32)
      else
        if a2 ≤ 99 then
          (0 : Int32)
        else
          ((-6) : Int32)
    else
      ((-4) : Int32) : Int32) fun (v1 : Int32) =>
  if v1 = 0 then
    gd_ (!(((2 * a2) + 1) == 0)) <|
    some ((a1 + (2 * a2)) / ((2 * a2) + 1), w)
  else
    (fX10_no w v1).bind fun q8 => un2 q8 fun (r7 : Int32) (w6 : Wd) =>
    some (r7, w6)
def fX10_spreads (w : Wd) (a1 : Int32) (a2 : Int32) : Option (Int32 × Wd) :=
  lt_ (if a1 < 1 then
    ((-4) : Int32)
  else
    if (0 : Int32) ≤ a2 then
      if (99 : Int32) < a1 then
        ((-6) : Int32)
      else
        if a2 ≤ 99 then
          if a2 < a1 then
            (0 : Int32)
          else
            ((-1) : Int32)
        else
          ((-6) : Int32)
    else
      ((-4) : Int32) : Int32) fun (v1 : Int32) =>
  if v1 = 0 then
    if a2 ≤ ((a1 - 1) - a2) then
      some ((a1 - 1) - a2, w)
    else
      some (a2, w)
  else
    (fX10_no w v1).bind fun q9 => un2 q9 fun (r8 : Int32) (w7 : Wd) =>
    some (r8, w7)
def fX10_lowest (w : Wd) (a1 : Int32) : Option (Int64 × Wd) :=
  gd_ (ib (-a1) 7) <|
  lt_ (upI w 43 ((-a1).toNatClampNeg) ((w.1 43 (-a1).toNatClampNeg) + 1)) fun (w2 : Wd) =>
  some (4000000000000000000 - (a1.toInt64), w2)
def fX10_tenthsOut (w : Wd) (a1 : Int32) : Option (Int32) :=
  gd_ (ib a1 8) <|
  if (w.1 45 a1.toNatClampNeg) = 3 then
    some (0 : Int32)
  else
    (fX10_feltBy w a1 (w.1 42 8)).bind fun (r2 : Int32) =>
    lt_ ((r2 - (fX10_holdsOf (w.1 45 a1.toNatClampNeg) (w.1 46 a1.toNatClampNeg))) + 2) fun (v3 : Int32) =>
    if (0 : Int32) ≤ v3 then
      if v3 ≤ 9 then
        some v3
      else
        some (9 : Int32)
    else
      some (0 : Int32)
def fX10_stays_b5 (w : Wd) (a1 : Int32) (a2 : Int32) (l1 : Int64) (l2 : Int32) : Option ((Int64 × Int32) ⊕ (Int64)) :=
  if (w.1 42 6) ≤ l2 then
    some (.inr l1)
  else
    (fX10_tenthsOut w l2).bind fun (r4 : Int32) =>
    lt_ (if (fX10_has a1 l2) = 0 then
      (10 : Int64)
    else
      if (fX10_has a2 l2) = 0 then
        r4.toInt64
      else
        (10 - r4).toInt64 : Int64) fun (v5 : Int64) =>
    lt_ (l1 * v5) fun (v7 : Int64) =>
    lt_ (l2 + 1) fun (v8 : Int32) =>
    some (.inl (v7, v8))
def fX10_stays (w : Wd) (a1 : Int32) (a2 : Int32) : Option (Int64) :=
  (iter (fun s : Int64 × Int32 => fX10_stays_b5 w a1 a2 s.1 s.2) FU (1, 0)).bind fun (l11 : Int64) =>
  some l11
def fX10_goesChances_b2 (l1 : Int32) (w2 : Wd) : Option ((Int32 × Wd) ⊕ (Wd)) :=
  if (16 : Int32) ≤ l1 then
    some (.inr w2)
  else
    gd_ (ib l1 16) <|
    lt_ (upJ w2 64 (l1.toNatClampNeg) 0) fun (w4 : Wd) =>
    lt_ (l1 + 1) fun (v7 : Int32) =>
    some (.inl (v7, w4))
def fX10_goesChances_b23 (l12 : Int32) (w13 : Wd) : Option ((Int32 × Wd) ⊕ (Wd)) :=
  if (256 : Int32) ≤ l12 then
    some (.inr w13)
  else
    lt_ (l12 / 16) fun (v15 : Int32) =>
    lt_ (jrem l12 16) fun (v16 : Int32) =>
    gd_ (ib v15 16) <|
    if (lg_cmp (w13.2 63 v15.toNatClampNeg) 0) = 0 then
      lt_ (l12 + 1) fun (v18 : Int32) =>
      some (.inl (v18, w13))
    else
      if (v16 &&& (v15 ^^^ (-1))) = 0 then
        (fX10_spread w13 v16).bind fun q21 => un2 q21 fun (r20 : Int32) (w19 : Wd) =>
        gd_ (ib r20 16) <|
        (fX10_stays w19 v15 v16).bind fun (r24 : Int64) =>
        lt_ (upJ w19 64 (r20.toNatClampNeg) ((w19.2 64 r20.toNatClampNeg) + ((w19.2 63 v15.toNatClampNeg) * r24))) fun (w25 : Wd) =>
        lt_ (l12 + 1) fun (v27 : Int32) =>
        some (.inl (v27, w25))
      else
        lt_ (l12 + 1) fun (v28 : Int32) =>
        some (.inl (v28, w13))
def fX10_goesChances_b96 (l35 : Int32) (w36 : Wd) : Option ((Int32 × Wd) ⊕ (Wd)) :=
  if (16 : Int32) ≤ l35 then
    some (.inr w36)
  else
    gd_ (ib l35 16) <|
    lt_ (upJ w36 63 (l35.toNatClampNeg) (w36.2 64 l35.toNatClampNeg)) fun (w39 : Wd) =>
    lt_ (l35 + 1) fun (v41 : Int32) =>
    some (.inl (v41, w39))
def fX10_goesChances (w : Wd) : Option (Wd) :=
  (iter (fun s : Int32 × Wd => fX10_goesChances_b2 s.1 s.2) FU (0, w)).bind fun (w10 : Wd) =>
  (iter (fun s : Int32 × Wd => fX10_goesChances_b23 s.1 s.2) FU (0, w10)).bind fun (w33 : Wd) =>
  (iter (fun s : Int32 × Wd => fX10_goesChances_b96 s.1 s.2) FU (0, w33)).bind fun (w44 : Wd) =>
  lt_ (upI w44 42 8 ((w44.1 42 8) + 1)) fun (w46 : Wd) =>
  some w46
def fX10_divisor_b6 (l1 : Int64) (l2 : Int64) : Option ((Int64 × Int64) ⊕ (Int64)) :=
  if (lg_cmp l2 0) = 0 then
    some (.inr l1)
  else
    gd_ (!(l2 == 0)) <|
    lt_ (jremL l1 l2) fun (v5 : Int64) =>
    some (.inl (l2, v5))
def fX10_divisor (a0 : Int64) (a2 : Int64) : Option (Int64) :=
  (iter (fun s : Int64 × Int64 => fX10_divisor_b6 s.1 s.2) FU (a0, a2)).bind fun (l8 : Int64) =>
  some l8
def fX10_chances_b86 (l9 : Int32) (w10 : Wd) : Option ((Int32 × Wd) ⊕ (Wd)) :=
  if (16 : Int32) ≤ l9 then
    some (.inr w10)
  else
    lt_ (if l9 = (w10.1 42 7) then
      (1 : Int64)
    else
      (0 : Int64) : Int64) fun (v12 : Int64) =>
    gd_ (ib l9 16) <|
    lt_ (upJ w10 63 (l9.toNatClampNeg) v12) fun (w13 : Wd) =>
    lt_ (l9 + 1) fun (v16 : Int32) =>
    some (.inl (v16, w13))
def fX10_chances_b139 (w25 : Wd) (l27 : Int64) (l28 : Int32) : Option ((Int64 × Int32) ⊕ (Int64)) :=
  if (w25.1 42 6) ≤ l28 then
    some (.inr l27)
  else
    lt_ (l27 * 10) fun (v30 : Int64) =>
    lt_ (l28 + 1) fun (v31 : Int32) =>
    some (.inl (v30, v31))
def fX10_chances_b126 (a1 : Int32) (l21 : Int64) (l22 : Int32) (w23 : Wd) : Option ((Int64 × Int32 × Wd) ⊕ (Int64 × Wd)) :=
  if a1 ≤ l22 then
    some (.inr (l21, w23))
  else
    (fX10_goesChances w23).bind fun (w25 : Wd) =>
    (iter (fun s : Int64 × Int32 => fX10_chances_b139 w25 s.1 s.2) FU (l21, 0)).bind fun (l34 : Int64) =>
    lt_ (l22 + 1) fun (v35 : Int32) =>
    some (.inl (l34, v35, w25))
def fX10_chances_b180 (a2 : Int32) (w41 : Wd) (l43 : Int64) (l44 : Int32) : Option ((Int64 × Int32) ⊕ (Int64)) :=
  if (16 : Int32) ≤ l44 then
    some (.inr l43)
  else
    gd_ (ib l44 16) <|
    (if a2 = 0 then
      some (1 : Int32)
    else
      (fX10_bits l44).bind fun (r49 : Int32) =>
      some r49 : Option Int32).bind fun (v48 : Int32) =>
    lt_ (l43 + ((w41.2 63 l44.toNatClampNeg) * (v48.toInt64))) fun (v50 : Int64) =>
    lt_ (l44 + 1) fun (v51 : Int32) =>
    some (.inl (v50, v51))
def fX10_chances_j65 (a1 : Int32) (a2 : Int32) (a3 : Int32) (w7 : Wd) (l6 : Int32) : Option (Int64 × Wd) :=
  if l6 = 0 then
    lt_ (w7.1 42 8) fun (v8 : Int32) =>
    (iter (fun s : Int32 × Wd => fX10_chances_b86 s.1 s.2) FU (0, w7)).bind fun (w19 : Wd) =>
    (iter (fun s : Int64 × Int32 × Wd => fX10_chances_b126 a1 s.1 s.2.1 s.2.2) FU (1, 0, w19)).bind fun x37 => un2 x37 fun (l38 : Int64) (w39 : Wd) =>
    lt_ (upI w39 42 8 v8) fun (w41 : Wd) =>
    (iter (fun s : Int64 × Int32 => fX10_chances_b180 a2 w41 s.1 s.2) FU (0, 1)).bind fun (l54 : Int64) =>
    lt_ (if a3 = 0 then
      l54
    else
      l38 : Int64) fun (v55 : Int64) =>
    (fX10_divisor l54 l38).bind fun (r56 : Int64) =>
    gd_ (!(r56 == 0)) <|
    some (v55 / r56, w41)
  else
    (fX10_lowest w7 l6).bind fun q60 => un2 q60 fun (r59 : Int64) (w58 : Wd) =>
    some (r59, w58)
def fX10_chances (w : Wd) (a1 : Int32) (a2 : Int32) (a3 : Int32) : Option (Int64 × Wd) :=
  lt_ (fX10_bound a1 0 3) fun (v1 : Int32) =>
  if v1 = 0 then
    lt_ (if (fX10_isIn a2 0 1) = 0 then
      ((-2) : Int32)
    else
      if (fX10_isIn a3 0 1) = 0 then
        ((-2) : Int32)
      else
        if (4 : Int32) < (w.1 42 6) then
          ((-3) : Int32)
        else
          if (w.1 42 8) + a1 ≤ (fX10_doorAt w) then
            (0 : Int32)
          else
            ((-3) : Int32) : Int32) fun (v2 : Int32) =>
    fX10_chances_j65 a1 a2 a3 w v2
  else
    fX10_chances_j65 a1 a2 a3 w v1
def fX10_smallBits_b4 (w : Wd) (l1 : Int32) (l2 : Int32) : Option ((Int32 × Int32) ⊕ (Int32)) :=
  if (w.1 42 6) ≤ l2 then
    some (.inr l1)
  else
    gd_ (ib l2 8) <|
    lt_ (if (w.1 45 l2.toNatClampNeg) = 6 then
      (1 : Int32) <<< (l2 &&& 31)
    else
      (0 : Int32) : Int32) fun (v5 : Int32) =>
    lt_ (l1 ||| v5) fun (v6 : Int32) =>
    lt_ (l2 + 1) fun (v7 : Int32) =>
    some (.inl (v6, v7))
def fX10_smallBits (w : Wd) : Option (Int32) :=
  (iter (fun s : Int32 × Int32 => fX10_smallBits_b4 w s.1 s.2) FU (0, 0)).bind fun (l10 : Int32) =>
  some l10
def fX10_areAllLit (w : Wd) (a1 : Int32) : Option (Int32) :=
  (fX10_smallBits w).bind fun (r1 : Int32) =>
  if (((1 : Int32) <<< ((w.1 42 6) &&& 31)) - 1) &&& ((a1 ||| r1) ^^^ (-1)) = 0 then
    some (1 : Int32)
  else
    some (0 : Int32)
def fX10_all_b7 (l2 : Int32) (l3 : Int32) (w4 : Wd) : Option ((Int32 × Int32 × Wd) ⊕ (Int32 × Wd)) :=
  if (61 : Int32) ≤ l3 then
    some (.inr ((-9), w4))
  else
    (fX10_areAllLit w4 l2).bind fun (r5 : Int32) =>
    if r5 = 0 then
      (fX10_spread w4 l2).bind fun q8 => un2 q8 fun (r7 : Int32) (w6 : Wd) =>
      lt_ (l3 + 1) fun (v10 : Int32) =>
      some (.inl (r7, v10, w6))
    else
      some (.inr (l3, w4))
def fX10_all (w : Wd) : Option (Int32 × Wd) :=
  lt_ (w.1 42 7) fun (v1 : Int32) =>
  iter (fun s : Int32 × Int32 × Wd => fX10_all_b7 s.1 s.2.1 s.2.2) FU (v1, 0, w)
def fX10_behind_b26 (a1 : Int32) (l3 : Int32) (l4 : Int32) (w5 : Wd) : Option ((Int32 × Int32 × Wd) ⊕ (Int32 × Wd)) :=
  if a1 ≤ l4 then
    some (.inr (l3, w5))
  else
    (fX10_spread w5 l3).bind fun q9 => un2 q9 fun (r8 : Int32) (w7 : Wd) =>
    lt_ (l4 + 1) fun (v11 : Int32) =>
    some (.inl (r8, v11, w7))
def fX10_behind (w : Wd) (a1 : Int32) : Option (Int32 × Wd) :=
  lt_ (fX10_bound a1 0 60) fun (v1 : Int32) =>
  if v1 = 0 then
    lt_ (w.1 42 7) fun (v2 : Int32) =>
    (iter (fun s : Int32 × Int32 × Wd => fX10_behind_b26 a1 s.1 s.2.1 s.2.2) FU (v2, 0, w)).bind fun x13 => un2 x13 fun (l14 : Int32) (w15 : Wd) =>
    some (l14, w15)
  else
    (fX10_no w v1).bind fun q19 => un2 q19 fun (r18 : Int32) (w17 : Wd) =>
    some (r18, w17)
def fX10_atFirst_j67 (w13 : Wd) (l11 : Int32) (l12 : Int32) : Option ((Int32 × Int32 × Wd) ⊕ (Int32 × Wd)) :=
  lt_ (upI w13 42 7 l12) fun (w14 : Wd) =>
  (fX10_atDoor w14).bind fun q18 => un2 q18 fun (r17 : Int32) (w16 : Wd) =>
  (fX10_areAllLit w16 r17).bind fun (r20 : Int32) =>
  if r20 = 0 then
    lt_ (l12 + 1) fun (v21 : Int32) =>
    some (.inl (l11, v21, w16))
  else
    lt_ (l12 + 1) fun (v22 : Int32) =>
    some (.inl (l12, v22, w16))
def fX10_atFirst_b27 (l6 : Int32) (l7 : Int32) (w8 : Wd) : Option ((Int32 × Int32 × Wd) ⊕ (Int32 × Wd)) :=
  if (1 : Int32) <<< ((w8.1 42 6) &&& 31) ≤ l7 then
    some (.inr (l6, w8))
  else
    (fX10_smallBits w8).bind fun (r10 : Int32) =>
    if (l7 &&& r10) = 0 then
      if l6 < 0 then
        fX10_atFirst_j67 w8 l6 l7
      else
        (fX10_bits l7).bind fun (r24 : Int32) =>
        (fX10_bits l6).bind fun (r25 : Int32) =>
        if r24 < r25 then
          fX10_atFirst_j67 w8 l6 l7
        else
          lt_ (l7 + 1) fun (v26 : Int32) =>
          some (.inl (l6, v26, w8))
    else
      lt_ (l7 + 1) fun (v29 : Int32) =>
      some (.inl (l6, v29, w8))
def fX10_atFirst (w : Wd) (a1 : Int32) : Option (Int32 × Wd) :=
  if (fX10_isIn a1 0 1) = 0 then
    (fX10_no w (-2)).bind fun q3 => un2 q3 fun (r2 : Int32) (w1 : Wd) =>
    some (r2, w1)
  else
    lt_ (w.1 42 7) fun (v5 : Int32) =>
    (iter (fun s : Int32 × Int32 × Wd => fX10_atFirst_b27 s.1 s.2.1 s.2.2) FU ((-9), 0, w)).bind fun x32 => un2 x32 fun (l33 : Int32) (w34 : Wd) =>
    lt_ (upI w34 42 7 v5) fun (w36 : Wd) =>
    if a1 = 1 then
      some (l33, w36)
    else
      if (0 : Int32) ≤ l33 then
        (fX10_bits l33).bind fun (r38 : Int32) =>
        some (r38, w36)
      else
        some (l33, w36)
def fX10_forms_b40 (l7 : Int32) (l8 : Int32) (l9 : Int32) (w10 : Wd) : Option ((Int32 × Int32 × Int32 × Wd) ⊕ (Int32 × Int32 × Wd)) :=
  if (6 : Int32) ≤ l9 then
    some (.inr (l7, l8, w10))
  else
    lt_ (upI w10 44 0 (l9 / 2)) fun (w12 : Wd) =>
    lt_ (upI w12 44 1 ((jrem l9 2) + 1)) fun (w14 : Wd) =>
    (fX10_atDoor w14).bind fun q18 => un2 q18 fun (r17 : Int32) (w16 : Wd) =>
    (fX10_bits r17).bind fun (r20 : Int32) =>
    if l8 < r20 then
      lt_ (((10 * (l9 / 2)) + (jrem l9 2)) + 1) fun (v21 : Int32) =>
      lt_ (l9 + 1) fun (v22 : Int32) =>
      some (.inl (v21, r20, v22, w16))
    else
      lt_ (l9 + 1) fun (v23 : Int32) =>
      some (.inl (l7, l8, v23, w16))
def fX10_forms (w : Wd) (a1 : Int32) : Option (Int32 × Wd) :=
  if (fX10_isIn a1 0 1) = 0 then
    (fX10_no w (-2)).bind fun q3 => un2 q3 fun (r2 : Int32) (w1 : Wd) =>
    some (r2, w1)
  else
    lt_ (w.1 44 0) fun (v5 : Int32) =>
    lt_ (w.1 44 1) fun (v6 : Int32) =>
    (iter (fun s : Int32 × Int32 × Int32 × Wd => fX10_forms_b40 s.1 s.2.1 s.2.2.1 s.2.2.2) FU (1, (-9), 0, w)).bind fun x26 => un3 x26 fun (l27 : Int32) (l28 : Int32) (w29 : Wd) =>
    lt_ (upI w29 44 0 v5) fun (w31 : Wd) =>
    lt_ (upI w31 44 1 v6) fun (w33 : Wd) =>
    if a1 = 0 then
      some (l27, w33)
    else
      some (l28, w33)
def fX10_doorCalm (w : Wd) (a1 : Int32) (a2 : Int32) : Option (Int32 × Wd) :=
  gd_ (ib a1 25) <|
  lt_ (w.1 47 a1.toNatClampNeg) fun (v2 : Int32) =>
  gd_ (ib a2 25) <|
  lt_ (w.1 47 a2.toNatClampNeg) fun (v4 : Int32) =>
  lt_ (upI w 47 (a1.toNatClampNeg) 0) fun (w5 : Wd) =>
  lt_ (upI w5 47 (a2.toNatClampNeg) 0) fun (w7 : Wd) =>
  (fX10_atDoor w7).bind fun q11 => un2 q11 fun (r10 : Int32) (w9 : Wd) =>
  (fX10_bits r10).bind fun (r13 : Int32) =>
  lt_ (upI w9 47 (a2.toNatClampNeg) v4) fun (w14 : Wd) =>
  lt_ (upI w14 47 (a1.toNatClampNeg) v2) fun (w16 : Wd) =>
  some (r13, w16)
def fX10_calms_b57 (a1 : Int32) (l13 : Int32) (l17 : Int32) (l18 : Int32) (l19 : Int32) (w20 : Wd) : Option ((Int32 × Int32 × Int32 × Wd) ⊕ (Int32 × Int32 × Wd)) :=
  lt_ (if a1 = 0 then
    l13 + 1
  else
    fX10_doorAt w20 : Int32) fun (v21 : Int32) =>
  if v21 ≤ l19 then
    some (.inr (l17, l18, w20))
  else
    (fX10_doorCalm w20 l13 l19).bind fun q25 => un2 q25 fun (r24 : Int32) (w23 : Wd) =>
    if l17 < r24 then
      lt_ (if a1 = 0 then
        l13
      else
        (100 * l13) + l19 : Int32) fun (v27 : Int32) =>
      lt_ (l19 + 1) fun (v28 : Int32) =>
      some (.inl (r24, v27, v28, w23))
    else
      lt_ (l19 + 1) fun (v29 : Int32) =>
      some (.inl (l17, l18, v29, w23))
def fX10_calms_b33 (a1 : Int32) (l11 : Int32) (l12 : Int32) (l13 : Int32) (w14 : Wd) : Option ((Int32 × Int32 × Int32 × Wd) ⊕ (Int32 × Wd)) :=
  if (fX10_doorAt w14) ≤ l13 then
    some (.inr (l12, w14))
  else
    lt_ (if a1 = 0 then
      l13
    else
      l13 + 1 : Int32) fun (v16 : Int32) =>
    (iter (fun s : Int32 × Int32 × Int32 × Wd => fX10_calms_b57 a1 l13 s.1 s.2.1 s.2.2.1 s.2.2.2) FU (l11, l12, v16, w14)).bind fun x32 => un3 x32 fun (l33 : Int32) (l34 : Int32) (w35 : Wd) =>
    lt_ (l13 + 1) fun (v37 : Int32) =>
    some (.inl (l33, l34, v37, w35))
def fX10_calms (w : Wd) (a1 : Int32) : Option (Int32 × Wd) :=
  if (fX10_isIn a1 0 1) = 0 then
    (fX10_no w (-2)).bind fun q3 => un2 q3 fun (r2 : Int32) (w1 : Wd) =>
    some (r2, w1)
  else
    (fX10_atDoor w).bind fun q7 => un2 q7 fun (r6 : Int32) (w5 : Wd) =>
    (fX10_bits r6).bind fun (r9 : Int32) =>
    lt_ (w5.1 42 8) fun (v10 : Int32) =>
    (iter (fun s : Int32 × Int32 × Int32 × Wd => fX10_calms_b33 a1 s.1 s.2.1 s.2.2.1 s.2.2.2) FU (r9, (-9), v10, w5)).bind fun x39 => un2 x39 fun (l40 : Int32) (w41 : Wd) =>
    some (l40, w41)
def fX10_farthest_b13 (l2 : Int32) (l3 : Int32) (w4 : Wd) : Option ((Int32 × Int32 × Wd) ⊕ (Int32 × Wd)) :=
  if l3 < (w4.1 42 8) then
    some (.inr (l2, w4))
  else
    if l3 ≤ 0 then
      some (.inr (l2, w4))
    else
      if (0 : Int32) ≤ l2 then
        some (.inr (l2, w4))
      else
        lt_ (upI w4 44 2 l3) fun (w8 : Wd) =>
        (fX10_atDoor w8).bind fun q12 => un2 q12 fun (r11 : Int32) (w10 : Wd) =>
        lt_ (if r11 = 0 then
          ((-9) : Int32)
        else
          l3 : Int32) fun (v14 : Int32) =>
        lt_ (l3 + (-1)) fun (v15 : Int32) =>
        some (.inl (v14, v15, w10))
def fX10_farthest_j56 (w25 : Wd) (l23 : Int32) (l24 : Int32) : Option (Int32 × Wd) :=
  lt_ (upI w25 44 2 l23) fun (w26 : Wd) =>
  some (l24, w26)
def fX10_farthest (w : Wd) : Option (Int32 × Wd) :=
  lt_ (w.1 44 2) fun (v1 : Int32) =>
  (iter (fun s : Int32 × Int32 × Wd => fX10_farthest_b13 s.1 s.2.1 s.2.2) FU ((-9), 24, w)).bind fun x19 => un2 x19 fun (l20 : Int32) (w21 : Wd) =>
  fX10_farthest_j56 w21 v1 l20
def fX10_turned_b8 (l3 : Int32) (w4 : Wd) : Option ((Int32 × Wd) ⊕ (Wd)) :=
  if (w4.1 42 6) / 2 ≤ l3 then
    some (.inr w4)
  else
    (fX10_exchanges w4 l3 (((w4.1 42 6) - 1) - l3)).bind fun (w6 : Wd) =>
    lt_ (l3 + 1) fun (v8 : Int32) =>
    some (.inl (v8, w6))
def fX10_turned (w : Wd) : Option (Int32 × Wd) :=
  (fX10_passesAll w 1 1).bind fun (w1 : Wd) =>
  (iter (fun s : Int32 × Wd => fX10_turned_b8 s.1 s.2) FU (0, w1)).bind fun (w11 : Wd) =>
  (fX10_atDoor w11).bind fun q15 => un2 q15 fun (r14 : Int32) (w13 : Wd) =>
  (fX10_bits r14).bind fun (r17 : Int32) =>
  (fX10_passesAll w13 1 0).bind fun (w18 : Wd) =>
  some (r17, w18)
def fX10_goesCounting_b12 (l5 : Int32) (w6 : Wd) : Option ((Int32 × Wd) ⊕ (Wd)) :=
  if (8 : Int32) ≤ l5 then
    some (.inr w6)
  else
    gd_ (ib l5 8) <|
    lt_ (upI w6 55 (l5.toNatClampNeg) l5) fun (w8 : Wd) =>
    lt_ (l5 + 1) fun (v11 : Int32) =>
    some (.inl (v11, w8))
def fX10_goesCounting_b31 (a1 : Int32) (w16 : Wd) : Option ((Wd) ⊕ (Wd)) :=
  if (fX10_doorAt w16) ≤ (w16.1 42 8) then
    some (.inr w16)
  else
    (if (fX10_has (w16.1 42 7) a1) = 0 then
      some (0 : Int32)
    else
      (fX10_holds w16 a1).bind fun (r20 : Int32) =>
      if r20 = 0 then
        some (1 : Int32)
      else
        some (0 : Int32) : Option Int32).bind fun (v19 : Int32) =>
    lt_ (upI w16 42 37 ((w16.1 42 37) + v19)) fun (w22 : Wd) =>
    (fX10_goes w22 0).bind fun (w24 : Wd) =>
    some (.inl w24)
def fX10_goesCounting (w : Wd) (a1 : Int32) : Option (Wd) :=
  lt_ (upI w 42 37 0) fun (w1 : Wd) =>
  lt_ (upI w1 42 23 0) fun (w3 : Wd) =>
  (iter (fun s : Int32 × Wd => fX10_goesCounting_b12 s.1 s.2) FU (0, w3)).bind fun (w14 : Wd) =>
  (iter (fun s : Wd => fX10_goesCounting_b31 a1 s) FU w14).bind fun (w28 : Wd) =>
  some w28
def fX10_flame (w : Wd) (a1 : Int32) : Option (Int32 × Wd) :=
  if (fX10_isPerson w a1) = 0 then
    (fX10_no w (-1)).bind fun q3 => un2 q3 fun (r2 : Int32) (w1 : Wd) =>
    some (r2, w1)
  else
    (fX10_passesAll w 1 1).bind fun (w5 : Wd) =>
    (fX10_goesCounting w5 a1).bind fun (w7 : Wd) =>
    (if (fX10_has (w7.1 42 7) a1) = 0 then
      some ((-9) : Int32)
    else
      gd_ (ib a1 8) <|
      some (w7.1 55 a1.toNatClampNeg) : Option Int32).bind fun (v10 : Int32) =>
    (fX10_passesAll w7 1 0).bind fun (w12 : Wd) =>
    some (v10, w12)
def fX10_out (w : Wd) (a1 : Int32) : Option (Int32 × Wd) :=
  if (fX10_isPerson w a1) = 0 then
    (fX10_no w (-1)).bind fun q3 => un2 q3 fun (r2 : Int32) (w1 : Wd) =>
    some (r2, w1)
  else
    (fX10_passesAll w 1 1).bind fun (w5 : Wd) =>
    (fX10_goesCounting w5 a1).bind fun (w7 : Wd) =>
    (fX10_passesAll w7 1 0).bind fun (w9 : Wd) =>
    some (w9.1 42 37, w9)
def fX10_again (w : Wd) : Option (Int32 × Wd) :=
  (fX10_passesAll w 1 1).bind fun (w1 : Wd) =>
  (fX10_goesCounting w1 0).bind fun (w3 : Wd) =>
  (fX10_passesAll w3 1 0).bind fun (w5 : Wd) =>
  some (w5.1 42 23, w5)
def fX10_findGame_b25 (l3 : Int32) (l8 : Int32) (w9 : Wd) : Option ((Int32 × Wd) ⊕ (Wd)) :=
  if (25 : Int32) ≤ l8 then
    some (.inr w9)
  else
    gd_ (ib l8 25) <|
    lt_ (upI w9 48 (l8.toNatClampNeg) (jrem l3 3)) fun (w11 : Wd) =>
    lt_ (l8 + 1) fun (v14 : Int32) =>
    some (.inl (v14, w11))
def fX10_findGame_b8 (l3 : Int32) (w4 : Wd) : Option ((Int32 × Wd) ⊕ (Wd)) :=
  if (9 : Int32) ≤ l3 then
    some (.inr w4)
  else
    lt_ (upI w4 44 0 (l3 / 3)) fun (w6 : Wd) =>
    (iter (fun s : Int32 × Wd => fX10_findGame_b25 l3 s.1 s.2) FU (0, w6)).bind fun (w17 : Wd) =>
    (fX10_atDoor w17).bind fun q21 => un2 q21 fun (r20 : Int32) (w19 : Wd) =>
    (fX10_bits r20).bind fun (r23 : Int32) =>
    gd_ (ib l3 9) <|
    lt_ (upI w19 65 (l3.toNatClampNeg) r23) fun (w24 : Wd) =>
    lt_ (l3 + 1) fun (v27 : Int32) =>
    some (.inl (v27, w24))
def fX10_findGame (w : Wd) : Option (Wd) :=
  (fX10_passesAll w 1 1).bind fun (w1 : Wd) =>
  (iter (fun s : Int32 × Wd => fX10_findGame_b8 s.1 s.2) FU (0, w1)).bind fun (w30 : Wd) =>
  (fX10_passesAll w30 1 0).bind fun (w32 : Wd) =>
  some w32
def fX10_sureBy_b17 (a1 : Int32) (l2 : Int32) (w : Wd) (l4 : Int32) (l5 : Int32) : Option ((Int32 × Int32) ⊕ (Int32)) :=
  if (3 : Int32) ≤ l5 then
    some (.inr l4)
  else
    lt_ (if a1 = 0 then
      (3 * l5) + l2
    else
      (3 * l2) + l5 : Int32) fun (v7 : Int32) =>
    gd_ (ib v7 9) <|
    lt_ (w.1 65 v7.toNatClampNeg) fun (v9 : Int32) =>
    lt_ (if l4 < 0 then
      v9
    else
      if a1 = 0 then
        if v9 ≤ l4 then
          l4
        else
          v9
      else
        if l4 ≤ v9 then
          l4
        else
          v9 : Int32) fun (v10 : Int32) =>
    lt_ (l5 + 1) fun (v14 : Int32) =>
    some (.inl (v10, v14))
def fX10_sureBy_b5 (a1 : Int32) (w : Wd) (l1 : Int32) (l2 : Int32) : Option ((Int32 × Int32) ⊕ (Int32)) :=
  if (3 : Int32) ≤ l2 then
    some (.inr l1)
  else
    (iter (fun s : Int32 × Int32 => fX10_sureBy_b17 a1 l2 w s.1 s.2) FU ((-9), 0)).bind fun (l17 : Int32) =>
    lt_ (if l1 < 0 then
      l17
    else
      if a1 = 0 then
        if l1 ≤ l17 then
          l1
        else
          l17
      else
        if l17 ≤ l1 then
          l1
        else
          l17 : Int32) fun (v18 : Int32) =>
    lt_ (l2 + 1) fun (v22 : Int32) =>
    some (.inl (v18, v22))
def fX10_sureBy (w : Wd) (a1 : Int32) : Option (Int32) :=
  (iter (fun s : Int32 × Int32 => fX10_sureBy_b5 a1 w s.1 s.2) FU ((-9), 0)).bind fun (l25 : Int32) =>
  some l25
def fX10_rests_b2 (a1 : Int32) (w : Wd) (l1 : Int32) : Option ((Int32) ⊕ (Int32)) :=
  if (3 : Int32) ≤ l1 then
    some (.inr (1 : Int32))
  else
    gd_ (ib ((3 * l1) + (jrem a1 3)) 9) <|
    gd_ (ib a1 9) <|
    if (w.1 65 a1.toNatClampNeg) < (w.1 65 ((3 * l1) + (jrem a1 3)).toNatClampNeg) then
      some (.inr (0 : Int32))
    else
      gd_ (ib (((a1 / 3) * 3) + l1) 9) <|
      if (w.1 65 a1.toNatClampNeg) ≤ (w.1 65 (((a1 / 3) * 3) + l1).toNatClampNeg) then
        lt_ (l1 + 1) fun (v5 : Int32) =>
        some (.inl v5)
      else
        some (.inr (0 : Int32))
def fX10_rests (w : Wd) (a1 : Int32) : Option (Int32) :=
  iter (fun s : Int32 => fX10_rests_b2 a1 w s) FU (0 : Int32)
def fX10_game_b41 (w5 : Wd) (l7 : Int32) : Option ((Int32) ⊕ (Int32 × Wd)) :=
  if (9 : Int32) ≤ l7 then
    some (.inr ((-9), w5))
  else
    (fX10_rests w5 l7).bind fun (r8 : Int32) =>
    if r8 = 0 then
      lt_ (l7 + 1) fun (v9 : Int32) =>
      some (.inl v9)
    else
      some (.inr ((10 * (l7 / 3)) + (jrem l7 3), w5))
def fX10_game_j35 (w13 : Wd) (l12 : Int32) : Option (Int32 × Wd) :=
  (fX10_sureBy w13 l12).bind fun (r14 : Int32) =>
  some (r14, w13)
def fX10_game (w : Wd) (a1 : Int32) : Option (Int32 × Wd) :=
  if (fX10_isIn a1 0 2) = 0 then
    (fX10_no w (-2)).bind fun q3 => un2 q3 fun (r2 : Int32) (w1 : Wd) =>
    some (r2, w1)
  else
    (fX10_findGame w).bind fun (w5 : Wd) =>
    if a1 ≤ 0 then
      iter (fun s : Int32 => fX10_game_b41 w5 s) FU (0 : Int32)
    else
      if a1 = 1 then
        fX10_game_j35 w5 1
      else
        fX10_game_j35 w5 0
def fX10_heirs_b18 (a1 : Int32) (l5 : Int32) (l6 : Int32) (w7 : Wd) : Option ((Int32 × Int32 × Wd) ⊕ (Int32 × Wd)) :=
  if (6 : Int32) < l6 then
    some (.inr (l5, w7))
  else
    (fX10_passesAll w7 1 1).bind fun (w9 : Wd) =>
    (fX10_becomes w9 a1 l6).bind fun (w11 : Wd) =>
    (fX10_atDoor w11).bind fun q15 => un2 q15 fun (r14 : Int32) (w13 : Wd) =>
    lt_ (if (fX10_has r14 a1) = 0 then
      (0 : Int32)
    else
      (1 : Int32) <<< (l6 &&& 31) : Int32) fun (v17 : Int32) =>
    lt_ (l5 ||| v17) fun (v18 : Int32) =>
    (fX10_passesAll w13 1 0).bind fun (w19 : Wd) =>
    lt_ (l6 + 1) fun (v21 : Int32) =>
    some (.inl (v18, v21, w19))
def fX10_heirs (w : Wd) (a1 : Int32) : Option (Int32 × Wd) :=
  if (fX10_isPerson w a1) = 0 then
    (fX10_no w (-1)).bind fun q3 => un2 q3 fun (r2 : Int32) (w1 : Wd) =>
    some (r2, w1)
  else
    (iter (fun s : Int32 × Int32 × Wd => fX10_heirs_b18 a1 s.1 s.2.1 s.2.2) FU (0, 0, w)).bind fun x23 => un2 x23 fun (l24 : Int32) (w25 : Wd) =>
    some (l24, w25)
def fX10_longestDark_b6 (w : Wd) (l1 : Int32) (l2 : Int32) (l3 : Int32) : Option ((Int32 × Int32 × Int32) ⊕ (Int32)) :=
  if (w.1 42 6) ≤ l3 then
    some (.inr l2)
  else
    lt_ (if (fX10_has (w.1 42 7) l3) = 0 then
      l1 + 1
    else
      (0 : Int32) : Int32) fun (v5 : Int32) =>
    lt_ (if v5 ≤ l2 then
      l2
    else
      v5 : Int32) fun (v6 : Int32) =>
    lt_ (l3 + 1) fun (v7 : Int32) =>
    some (.inl (v5, v6, v7))
def fX10_longestDark (w : Wd) : Option (Int32) :=
  (iter (fun s : Int32 × Int32 × Int32 => fX10_longestDark_b6 w s.1 s.2.1 s.2.2) FU (0, 0, 0)).bind fun (l10 : Int32) =>
  some l10
def fX10_gaps_b30 (l7 : Int32) (l8 : Int32) (l9 : Int32) (w10 : Wd) : Option ((Int32 × Int32 × Int32 × Wd) ⊕ (Int32 × Int32 × Wd)) :=
  if (fX10_doorAt w10) ≤ (w10.1 42 8) then
    some (.inr (l7, l8, w10))
  else
    (fX10_goes w10 0).bind fun (w12 : Wd) =>
    (fX10_longestDark w12).bind fun (r14 : Int32) =>
    lt_ (if r14 ≤ l7 then
      l8
    else
      l9 : Int32) fun (v15 : Int32) =>
    lt_ (if r14 ≤ l7 then
      l7
    else
      r14 : Int32) fun (v16 : Int32) =>
    lt_ (l9 + 1) fun (v17 : Int32) =>
    some (.inl (v16, v15, v17, w12))
def fX10_gaps (w : Wd) (a1 : Int32) : Option (Int32 × Wd) :=
  if (fX10_isIn a1 0 1) = 0 then
    (fX10_no w (-2)).bind fun q3 => un2 q3 fun (r2 : Int32) (w1 : Wd) =>
    some (r2, w1)
  else
    (fX10_passesAll w 1 1).bind fun (w5 : Wd) =>
    (iter (fun s : Int32 × Int32 × Int32 × Wd => fX10_gaps_b30 s.1 s.2.1 s.2.2.1 s.2.2.2) FU (0, (-9), 1, w5)).bind fun x19 => un3 x19 fun (l20 : Int32) (l21 : Int32) (w22 : Wd) =>
    (fX10_passesAll w22 1 0).bind fun (w24 : Wd) =>
    if a1 = 0 then
      some (l20, w24)
    else
      some (l21, w24)
def fX10_lightsOne_b2 (w : Wd) (l1 : Int32) : Option ((Int32) ⊕ (Wd)) :=
  if (w.1 42 6) ≤ l1 then
    some (.inr w)
  else
    gd_ (ib l1 8) <|
    if (w.1 45 l1.toNatClampNeg) = 6 then
      lt_ (l1 + 1) fun (v3 : Int32) =>
      some (.inl v3)
    else
      if (fX10_has (w.1 42 7) l1) = 0 then
        lt_ (upI w 42 7 ((w.1 42 7) ||| ((1 : Int32) <<< (l1 &&& 31)))) fun (w4 : Wd) =>
        some (.inr w4)
      else
        lt_ (l1 + 1) fun (v6 : Int32) =>
        some (.inl v6)
def fX10_lightsOne (w : Wd) : Option (Wd) :=
  iter (fun s : Int32 => fX10_lightsOne_b2 w s) FU (0 : Int32)
def fX10_doesLight_b21 (a1 : Int32) (l3 : Int32) (l6 : Int32) (w7 : Wd) : Option ((Int32 × Wd) ⊕ (Wd)) :=
  if a1 ≤ l6 then
    some (.inr w7)
  else
    gd_ (ib l6 3) <|
    if (w7.1 66 l6.toNatClampNeg) = l3 then
      (fX10_lightsOne w7).bind fun (w10 : Wd) =>
      lt_ (l6 + 1) fun (v12 : Int32) =>
      some (.inl (v12, w10))
    else
      lt_ (l6 + 1) fun (v13 : Int32) =>
      some (.inl (v13, w7))
def fX10_doesLight_b8 (a1 : Int32) (l3 : Int32) (w4 : Wd) : Option ((Int32 × Wd) ⊕ (Wd)) :=
  if (fX10_doorAt w4) ≤ (w4.1 42 8) then
    some (.inr w4)
  else
    (iter (fun s : Int32 × Wd => fX10_doesLight_b21 a1 l3 s.1 s.2) FU (0, w4)).bind fun (w17 : Wd) =>
    (fX10_goes w17 0).bind fun (w19 : Wd) =>
    lt_ (l3 + 1) fun (v21 : Int32) =>
    some (.inl (v21, w19))
def fX10_doesLight (w : Wd) (a1 : Int32) : Option (Int32 × Wd) :=
  (fX10_passesAll w 1 1).bind fun (w1 : Wd) =>
  (iter (fun s : Int32 × Wd => fX10_doesLight_b8 a1 s.1 s.2) FU (0, w1)).bind fun (w24 : Wd) =>
  lt_ (if (w24.1 42 7) = 0 then
    (0 : Int32)
  else
    (1 : Int32) : Int32) fun (v26 : Int32) =>
  (fX10_passesAll w24 1 0).bind fun (w27 : Wd) =>
  gd_ (bz v26) <|
  some (v26, w27)
def fX10_findMatches_b15 (a1 : Int32) (v1 : Int32) (l2 : Int32) (l3 : Int32) : Option ((Int32 × Int32) ⊕ (Int32)) :=
  if a1 ≤ l3 then
    some (.inr l2)
  else
    lt_ (l2 * v1) fun (v5 : Int32) =>
    lt_ (l3 + 1) fun (v6 : Int32) =>
    some (.inl (v5, v6))
def fX10_findMatches_b52 (v1 : Int32) (a1 : Int32) (l13 : Int32) (l14 : Int32) (l15 : Int32) (w16 : Wd) : Option ((Int32 × Int32 × Int32 × Wd) ⊕ (Int32 × Wd)) :=
  if l15 < 0 then
    some (.inr (l14, w16))
  else
    gd_ (!(v1 == 0)) <|
    gd_ (ib l15 3) <|
    lt_ (upI w16 66 (l15.toNatClampNeg) (jrem l13 v1)) fun (w19 : Wd) =>
    lt_ (l13 / v1) fun (v22 : Int32) =>
    (if l15 = (a1 - 1) then
      some (1 : Int32)
    else
      gd_ (ib (l15 + 1) 3) <|
      if (w19.1 66 (l15 + 1).toNatClampNeg) ≤ (w19.1 66 l15.toNatClampNeg) then
        some (0 : Int32)
      else
        some (1 : Int32) : Option Int32).bind fun (v24 : Int32) =>
    lt_ (l14 &&& v24) fun (v27 : Int32) =>
    lt_ (l15 + (-1)) fun (v28 : Int32) =>
    some (.inl (v22, v27, v28, w19))
def fX10_findMatches_b34 (l9 : Int32) (a1 : Int32) (v1 : Int32) (l10 : Int32) (w11 : Wd) : Option ((Int32 × Wd) ⊕ (Int32 × Wd)) :=
  if l9 ≤ l10 then
    some (.inr (0, w11))
  else
    lt_ (a1 - 1) fun (v12 : Int32) =>
    (iter (fun s : Int32 × Int32 × Int32 × Wd => fX10_findMatches_b52 v1 a1 s.1 s.2.1 s.2.2.1 s.2.2.2) FU (l10, 1, v12, w11)).bind fun x30 => un2 x30 fun (l31 : Int32) (w32 : Wd) =>
    if l31 = 0 then
      lt_ (l10 + 1) fun (v34 : Int32) =>
      some (.inl (v34, w32))
    else
      (fX10_doesLight w32 a1).bind fun q37 => un2 q37 fun (r36 : Int32) (w35 : Wd) =>
      if r36 = 0 then
        lt_ (l10 + 1) fun (v39 : Int32) =>
        some (.inl (v39, w35))
      else
        some (.inr (1, w35))
def fX10_findMatches (w : Wd) (a1 : Int32) : Option (Int32 × Wd) :=
  lt_ ((fX10_doorAt w) - (w.1 42 8)) fun (v1 : Int32) =>
  (iter (fun s : Int32 × Int32 => fX10_findMatches_b15 a1 v1 s.1 s.2) FU (1, 0)).bind fun (l9 : Int32) =>
  iter (fun s : Int32 × Wd => fX10_findMatches_b34 l9 a1 v1 s.1 s.2) FU (0, w)
def fX10_matches_b14 (a1 : Int32) (l1 : Int32) (w2 : Wd) : Option ((Int32 × Wd) ⊕ (Int32 × Wd)) :=
  if (4 : Int32) ≤ l1 then
    some (.inr ((-9), w2))
  else
    (fX10_findMatches w2 l1).bind fun q5 => un2 q5 fun (r4 : Int32) (w3 : Wd) =>
    if r4 = 0 then
      lt_ (l1 + 1) fun (v7 : Int32) =>
      some (.inl (v7, w3))
    else
      if (0 : Int32) ≤ a1 then
        if l1 ≤ a1 then
          some (.inr ((-9), w3))
        else
          gd_ (ib a1 3) <|
          some (.inr (w3.1 66 a1.toNatClampNeg, w3))
      else
        some (.inr (l1, w3))
def fX10_matches (w : Wd) (a1 : Int32) : Option (Int32 × Wd) :=
  if ((-1) : Int32) ≤ a1 then
    iter (fun s : Int32 × Wd => fX10_matches_b14 a1 s.1 s.2) FU (0, w)
  else
    (fX10_no w (-4)).bind fun q15 => un2 q15 fun (r14 : Int32) (w13 : Wd) =>
    some (r14, w13)
def fX10_isWax_b15 (l5 : Int32) (l6 : Int32) (w7 : Wd) : Option ((Int32 × Int32 × Wd) ⊕ (Int32 × Wd)) :=
  if (w7.1 42 6) ≤ l6 then
    some (.inr (l5, w7))
  else
    if l5 = 0 then
      some (.inr (l5, w7))
    else
      (fX10_darkEnds w7 l6).bind fun q12 => un2 q12 fun (r11 : Int32) (w10 : Wd) =>
      gd_ (ib l6 12) <|
      lt_ (if r11 = (w10.1 67 l6.toNatClampNeg) then
        (1 : Int32)
      else
        (0 : Int32) : Int32) fun (v15 : Int32) =>
      lt_ (l6 + 1) fun (v16 : Int32) =>
      some (.inl (v15, v16, w10))
def fX10_isWax_j53 (w24 : Wd) (l23 : Int32) : Option (Int32 × Wd) :=
  (fX10_passesAll w24 1 0).bind fun (w25 : Wd) =>
  gd_ (bz l23) <|
  some (l23, w25)
def fX10_isWax (w : Wd) (a1 : Int32) : Option (Int32 × Wd) :=
  (fX10_passesAll w 1 1).bind fun (w1 : Wd) =>
  lt_ (upI w1 42 7 a1) fun (w3 : Wd) =>
  (iter (fun s : Int32 × Int32 × Wd => fX10_isWax_b15 s.1 s.2.1 s.2.2) FU (1, 0, w3)).bind fun x19 => un2 x19 fun (l20 : Int32) (w21 : Wd) =>
  fX10_isWax_j53 w21 l20
def fX10_wax_b47 (w : Wd) (l3 : Int32) (l4 : Int32) : Option ((Int32 × Int32) ⊕ (Int32)) :=
  if (w.1 42 6) ≤ l4 then
    some (.inr l3)
  else
    gd_ (ib l4 8) <|
    lt_ (if (w.1 45 l4.toNatClampNeg) = 6 then
      (1 : Int32) <<< (l4 &&& 31)
    else
      (0 : Int32) : Int32) fun (v7 : Int32) =>
    lt_ (l3 ||| v7) fun (v8 : Int32) =>
    lt_ (l4 + 1) fun (v9 : Int32) =>
    some (.inl (v8, v9))
def fX10_wax_b95 (l12 : Int32) (l13 : Int32) (l14 : Int32) (l15 : Int32) (w16 : Wd) : Option ((Int32 × Int32 × Int32 × Wd) ⊕ (Int32 × Int32 × Wd)) :=
  if (1 : Int32) <<< ((w16.1 42 6) &&& 31) ≤ l15 then
    some (.inr (l13, l14, w16))
  else
    if (l15 &&& l12) = 0 then
      (fX10_isWax w16 l15).bind fun q20 => un2 q20 fun (r19 : Int32) (w18 : Wd) =>
      if r19 = 0 then
        lt_ (l15 + 1) fun (v22 : Int32) =>
        some (.inl (l13, l14, v22, w18))
      else
        lt_ (if l13 = 0 then
          l15
        else
          l14 : Int32) fun (v23 : Int32) =>
        lt_ (l13 + 1) fun (v24 : Int32) =>
        lt_ (l15 + 1) fun (v25 : Int32) =>
        some (.inl (v24, v23, v25, w18))
    else
      lt_ (l15 + 1) fun (v27 : Int32) =>
      some (.inl (l13, l14, v27, w16))
def fX10_wax (w : Wd) (a1 : Int32) : Option (Int32 × Wd) :=
  lt_ (if (fX10_isIn a1 0 1) = 0 then
    ((-2) : Int32)
  else
    if (w.1 42 41) = (w.1 42 6) then
      (0 : Int32)
    else
      ((-3) : Int32) : Int32) fun (v1 : Int32) =>
  if v1 = 0 then
    (iter (fun s : Int32 × Int32 => fX10_wax_b47 w s.1 s.2) FU (0, 0)).bind fun (l12 : Int32) =>
    (iter (fun s : Int32 × Int32 × Int32 × Wd => fX10_wax_b95 l12 s.1 s.2.1 s.2.2.1 s.2.2.2) FU (0, (-9), 0, w)).bind fun x30 => un3 x30 fun (l31 : Int32) (l32 : Int32) (w33 : Wd) =>
    if a1 = 0 then
      some (l31, w33)
    else
      some (l32, w33)
  else
    (fX10_no w v1).bind fun q38 => un2 q38 fun (r37 : Int32) (w36 : Wd) =>
    some (r37, w36)
def fX10_sides_b21 (l5 : Int32) (l8 : Int32) (w9 : Wd) : Option ((Int32 × Wd) ⊕ (Wd)) :=
  if (25 : Int32) ≤ l8 then
    some (.inr w9)
  else
    gd_ (ib l8 25) <|
    lt_ (upI w9 48 (l8.toNatClampNeg) l5) fun (w11 : Wd) =>
    lt_ (l8 + 1) fun (v14 : Int32) =>
    some (.inl (v14, w11))
def fX10_sides_b13 (l3 : Int32) (l4 : Int32) (l5 : Int32) (w6 : Wd) : Option ((Int32 × Int32 × Int32 × Wd) ⊕ (Int32 × Wd)) :=
  if (3 : Int32) ≤ l5 then
    some (.inr (l3, w6))
  else
    (iter (fun s : Int32 × Wd => fX10_sides_b21 l5 s.1 s.2) FU (0, w6)).bind fun (w17 : Wd) =>
    (fX10_atDoor w17).bind fun q21 => un2 q21 fun (r20 : Int32) (w19 : Wd) =>
    (fX10_bits r20).bind fun (r23 : Int32) =>
    if l4 < r23 then
      lt_ (l5 + 1) fun (v24 : Int32) =>
      some (.inl (l5, r23, v24, w19))
    else
      lt_ (l5 + 1) fun (v25 : Int32) =>
      some (.inl (l3, l4, v25, w19))
def fX10_sides (w : Wd) : Option (Int32 × Wd) :=
  (fX10_passesAll w 1 1).bind fun (w1 : Wd) =>
  (iter (fun s : Int32 × Int32 × Int32 × Wd => fX10_sides_b13 s.1 s.2.1 s.2.2.1 s.2.2.2) FU (0, (-9), 0, w1)).bind fun x28 => un2 x28 fun (l29 : Int32) (w30 : Wd) =>
  (fX10_passesAll w30 1 0).bind fun (w32 : Wd) =>
  some (l29, w32)
def fX10_row_j24 (a1 : Int32) (w3 : Wd) (l2 : Int32) : Option (Int32 × Wd) :=
  if l2 = 0 then
    gd_ (ib (w3.1 42 41) 12) <|
    lt_ (upI w3 67 ((w3.1 42 41).toNatClampNeg) a1) fun (w4 : Wd) =>
    lt_ (upI w4 42 41 ((w4.1 42 41) + 1)) fun (w7 : Wd) =>
    some (w7.1 42 41, w7)
  else
    (fX10_no w3 l2).bind fun q11 => un2 q11 fun (r10 : Int32) (w9 : Wd) =>
    some (r10, w9)
def fX10_row (w : Wd) (a1 : Int32) : Option (Int32 × Wd) :=
  lt_ (fX10_bound a1 0 99) fun (v1 : Int32) =>
  if v1 = 0 then
    if (w.1 42 41) = 12 then
      fX10_row_j24 a1 w (-6)
    else
      fX10_row_j24 a1 w v1
  else
    fX10_row_j24 a1 w v1
def fX10_judge_j58 (w14 : Wd) (l12 : Int32) (l13 : Int32) : Option ((Int32 × Int32 × Wd) ⊕ (Int32 × Wd)) :=
  (if l13 = 0 then
    some l12
  else
    (fX10_bits (w14.1 42 7)).bind fun (r17 : Int32) =>
    gd_ (ib l12 12) <|
    if r17 = (w14.1 67 l12.toNatClampNeg) then
      some ((-9) : Int32)
    else
      some l12 : Option Int32).bind fun (v16 : Int32) =>
  lt_ (l12 + 1) fun (v20 : Int32) =>
  some (.inl (v16, v20, w14))
def fX10_judge_b21 (v1 : Int32) (l6 : Int32) (l7 : Int32) (w8 : Wd) : Option ((Int32 × Int32 × Wd) ⊕ (Int32 × Wd)) :=
  if v1 ≤ l7 then
    some (.inr (l6, w8))
  else
    if (0 : Int32) ≤ l6 then
      some (.inr (l6, w8))
    else
      lt_ (if (fX10_doorAt w8) ≤ (w8.1 42 8) then
        (0 : Int32)
      else
        (1 : Int32) : Int32) fun (v11 : Int32) =>
      if v11 = 0 then
        fX10_judge_j58 w8 l7 v11
      else
        (fX10_goes w8 0).bind fun (w21 : Wd) =>
        fX10_judge_j58 w21 l7 v11
def fX10_judge_j92 (w31 : Wd) (l30 : Int32) : Option (Int32 × Wd) :=
  (fX10_passesAll w31 1 0).bind fun (w32 : Wd) =>
  some (l30, w32)
def fX10_judge (w : Wd) : Option (Int32 × Wd) :=
  lt_ (w.1 42 41) fun (v1 : Int32) =>
  lt_ (upI w 42 41 0) fun (w2 : Wd) =>
  (fX10_passesAll w2 1 1).bind fun (w4 : Wd) =>
  (iter (fun s : Int32 × Int32 × Wd => fX10_judge_b21 v1 s.1 s.2.1 s.2.2) FU ((-9), 0, w4)).bind fun x26 => un2 x26 fun (l27 : Int32) (w28 : Wd) =>
  fX10_judge_j92 w28 l27
def fX10_clear (w : Wd) : Int32 × Wd :=
  lt_ (w.1 42 41) fun (v1 : Int32) =>
  lt_ (upI w 42 41 0) fun (w2 : Wd) =>
  (v1, w2)
def fX10_draw (w : Wd) (a1 : Int32) : Option (Int32 × Wd) :=
  lt_ (upI w 42 42 (((w.1 42 42) * 1103515245) + 12345)) fun (w1 : Wd) =>
  gd_ (!(a1 == 0)) <|
  some (jrem (((w1.1 42 42) &&& 2147483647) / 65536) a1, w1)
def fX10_seeds_b71 (l14 : Int32) (w15 : Wd) : Option ((Int32 × Wd) ⊕ (Wd)) :=
  if (25 : Int32) ≤ l14 then
    some (.inr w15)
  else
    (fX10_draw w15 10).bind fun q19 => un2 q19 fun (r18 : Int32) (w17 : Wd) =>
    gd_ (ib l14 25) <|
    lt_ (upI w17 47 (l14.toNatClampNeg) r18) fun (w21 : Wd) =>
    (fX10_draw w21 3).bind fun q26 => un2 q26 fun (r25 : Int32) (w24 : Wd) =>
    lt_ (upI w24 48 (l14.toNatClampNeg) r25) fun (w28 : Wd) =>
    lt_ (l14 + 1) fun (v30 : Int32) =>
    some (.inl (v30, w28))
def fX10_seeds_b59 (a1 : Int32) (l8 : Int32) (l9 : Int32) (l10 : Int32) (w11 : Wd) : Option ((Int32 × Int32 × Int32 × Wd) ⊕ (Int32 × Int32 × Wd)) :=
  if a1 ≤ l10 then
    some (.inr (l8, l9, w11))
  else
    lt_ (w11.1 42 8) fun (v13 : Int32) =>
    (iter (fun s : Int32 × Wd => fX10_seeds_b71 s.1 s.2) FU (v13, w11)).bind fun (w33 : Wd) =>
    (fX10_atDoor w33).bind fun q37 => un2 q37 fun (r36 : Int32) (w35 : Wd) =>
    (fX10_bits r36).bind fun (r39 : Int32) =>
    lt_ (l8 + r39) fun (v40 : Int32) =>
    lt_ (if r39 = 0 then
      (1 : Int32)
    else
      (0 : Int32) : Int32) fun (v41 : Int32) =>
    lt_ (l9 + v41) fun (v42 : Int32) =>
    lt_ (l10 + 1) fun (v43 : Int32) =>
    some (.inl (v40, v42, v43, w35))
def fX10_seeds_j27 (a2 : Int32) (a1 : Int32) (a3 : Int32) (w3 : Wd) (l2 : Int32) : Option (Int32 × Wd) :=
  if l2 = 0 then
    (fX10_passesAll w3 1 1).bind fun (w4 : Wd) =>
    lt_ (upI w4 42 42 a2) fun (w6 : Wd) =>
    (iter (fun s : Int32 × Int32 × Int32 × Wd => fX10_seeds_b59 a1 s.1 s.2.1 s.2.2.1 s.2.2.2) FU (0, 0, 0, w6)).bind fun x45 => un3 x45 fun (l46 : Int32) (l47 : Int32) (w48 : Wd) =>
    (fX10_passesAll w48 1 0).bind fun (w50 : Wd) =>
    if a3 = 0 then
      some (l46, w50)
    else
      some (l47, w50)
  else
    (fX10_no w3 l2).bind fun q55 => un2 q55 fun (r54 : Int32) (w53 : Wd) =>
    some (r54, w53)
def fX10_seeds (w : Wd) (a1 : Int32) (a2 : Int32) (a3 : Int32) : Option (Int32 × Wd) :=
  lt_ (fX10_bound a1 1 20) fun (v1 : Int32) =>
  if v1 = 0 then
    if (fX10_isIn a3 0 1) = 0 then
      fX10_seeds_j27 a2 a1 a3 w (-2)
    else
      fX10_seeds_j27 a2 a1 a3 w v1
  else
    fX10_seeds_j27 a2 a1 a3 w v1
def fX10_count (w : Wd) (a1 : Int32) : Option (Int32) :=
  if (fX10_isIn a1 11 16) = 0 then
    if a1 = 0 then
      some (w.1 42 6)
    else if a1 = 1 then
      (fX10_bits (w.1 42 7)).bind fun (r3 : Int32) =>
      some r3
    else if a1 = 2 then
      some (w.1 42 8)
    else if a1 = 3 then
      some (w.1 42 9)
    else if a1 = 4 then
      gd_ (ib (a1 - 4) 3) <|
      some (w.1 44 (a1 - 4).toNatClampNeg)
    else if a1 = 5 then
      gd_ (ib (a1 - 4) 3) <|
      some (w.1 44 (a1 - 4).toNatClampNeg)
    else if a1 = 6 then
      gd_ (ib (a1 - 4) 3) <|
      some (w.1 44 (a1 - 4).toNatClampNeg)
    else if a1 = 7 then
      some (w.1 42 14)
    else if a1 = 8 then
      some (w.1 42 41)
    else if a1 = 9 then
      (fX10_lightOf w (w.1 42 7)).bind fun (r15 : Int32) =>
      some r15
    else if a1 = 10 then
      some (w.1 42 27)
    else 
      some ((-9) : Int32)
  else
    gd_ (ib (a1 - 10) 7) <|
    some (w.1 43 (a1 - 10).toNatClampNeg)
