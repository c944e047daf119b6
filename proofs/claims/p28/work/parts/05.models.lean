def m_X0_insert_p38 (n : Nat) (w : Wd) (a0 : Nat) (a1 : Int32) (a3 : Int32) : Option Wd :=
  (gfR 0 1 w a0).bind fun q1 =>
  (asI 0 w q1 a3 a1).bind fun w2 =>
  some w2
def m_X0_insert_p2 (n : Nat) : Nat → Wd → Nat → Int32 → Int32 → Option Wd
  | 0, _, _, _, _ => none
  | t + 1, w, a0, a1, a3 =>
    if a3 ≤ 0 then
      m_X0_insert_p38 n w a0 a1 a3
    else
      (gfR 0 1 w a0).bind fun q1 =>
      (agI 0 w q1 (a3 - 1)).bind fun x2 =>
      if x2 ≤ a1 then
        m_X0_insert_p38 n w a0 a1 a3
      else
        (gfR 0 1 w a0).bind fun q3 =>
        (gfR 0 1 w a0).bind fun q4 =>
        (agI 0 w q4 (a3 - 1)).bind fun x5 =>
        (asI 0 w q3 a3 x5).bind fun w6 =>
        m_X0_insert_p2 n t w6 a0 a1 (a3 + (-1))
def m_X0_insert (n : Nat) (w : Wd) (this : Nat) (a1 : Int32) (a2 : Int32) : Option Wd :=
  m_X0_insert_p2 n n w this a1 a2
def m_X3_code (a0 : Int32) (a1 : Int32) : Int32 :=
  nm1 (α := Int32) ((((a1 <<< (16 &&& 31 : Int32)) ||| a0) ||| (((a1 <<< (16 &&& 31 : Int32)) ||| a0) <<< (4 &&& 31 : Int32))) &&& 252645135) fun y1 =>
  nm1 (α := Int32) ((((y1 ||| (y1 <<< (2 &&& 31 : Int32))) &&& 858993459) ||| (((y1 ||| (y1 <<< (2 &&& 31 : Int32))) &&& 858993459) <<< (1 &&& 31 : Int32))) &&& 1431655765) fun y2 =>
  ((y2 ||| (y2 >>> (15 &&& 31 : Int32))) &&& 65535)
def m_X0_sortPoints_p4 (n : Nat) : Nat → Wd → Nat → Nat → Int32 → Int32 → Option (Int32 × Wd)
  | 0, _, _, _, _, _ => none
  | t + 1, w, a0, a1, a2, a3 =>
    if 24 ≤ a3 then
      some (a2, w)
    else
      (gfR 3 0 w a1).bind fun q1 =>
      (agI 1 w q1 a3).bind fun x2 =>
      if x2 = 0 then
        m_X0_sortPoints_p4 n t w a0 a1 a2 (a3 + 1)
      else
        (gfR 3 1 w a1).bind fun q3 =>
        (agI 0 w q3 a3).bind fun x4 =>
        (gfR 3 2 w a1).bind fun q5 =>
        (agI 0 w q5 a3).bind fun x6 =>
        (chk 0 w a0).bind fun u7 =>
        (m_X0_insert n w a0 (((m_X3_code x4 x6) * 32) + a3) a2).bind fun z8 =>
        m_X0_sortPoints_p4 n t z8 a0 a1 (a2 + 1) (a3 + 1)
def m_X0_sortPoints (n : Nat) (w : Wd) (this : Nat) (a1 : Nat) : Option (Int32 × Wd) :=
  m_X0_sortPoints_p4 n n w this a1 0 0
def m_X1_clear (n : Nat) (w : Wd) (this : Nat) : Option Wd :=
  (pfV 1 1 w this (.int 0)).bind fun w1 =>
  (pfV 1 3 w1 this (.int 1)).bind fun w2 =>
  some w2
def m_X1_beginsSquare (n : Nat) (w : Wd) (this : Nat) (a1 : Int32) (a2 : Int32) : Option Int32 :=
  if a1 = 0 then
    some 1
  else
    (gfR 1 0 w this).bind fun q1 =>
    (agI 0 w q1 (a1 - 1)).bind fun x2 =>
    (gfR 1 0 w this).bind fun q3 =>
    (agI 0 w q3 a1).bind fun x4 =>
    if (x2 >>> ((2 * a2) &&& 31 : Int32)) = (x4 >>> ((2 * a2) &&& 31 : Int32)) then
      some 0
    else
      some 1
def m_X1_branches_p30 (n : Nat) : Nat → Wd → Nat → Int32 → Int32 → Int32 → Int32 → Option Int32
  | 0, _, _, _, _, _, _ => none
  | t + 1, w, a0, a2, a3, a4, a5 =>
    (gfI 1 1 w a0).bind fun x1 =>
    if x1 ≤ a5 then
      some 0
    else
      (gfR 1 0 w a0).bind fun q2 =>
      (agI 0 w q2 a5).bind fun x3 =>
      if (x3 >>> ((2 * a2) &&& 31 : Int32)) = a3 then
        (gfR 1 0 w a0).bind fun q4 =>
        (agI 0 w q4 a5).bind fun x5 =>
        if (x5 >>> (((2 * a2) - 2) &&& 31 : Int32)) = a4 then
          m_X1_branches_p30 n t w a0 a2 a3 a4 (a5 + 1)
        else
          some 1
      else
        some 0
def m_X1_branches (n : Nat) (w : Wd) (this : Nat) (a1 : Int32) (a2 : Int32) : Option Int32 :=
  (gfR 1 0 w this).bind fun q1 =>
  (agI 0 w q1 a1).bind fun x2 =>
  (gfR 1 0 w this).bind fun q3 =>
  (agI 0 w q3 a1).bind fun x4 =>
  m_X1_branches_p30 n n w this a2 (x2 >>> ((2 * a2) &&& 31 : Int32)) (x4 >>> (((2 * a2) - 2) &&& 31 : Int32)) (a1 + 1)
def m_X1_keep (n : Nat) (w : Wd) (this : Nat) (a1 : Int32) : Option Wd :=
  (gfI 1 3 w this).bind fun x1 =>
  if 24 ≤ x1 then
    some w
  else
    (gfR 1 2 w this).bind fun q2 =>
    (gfI 1 3 w this).bind fun x3 =>
    (asI 0 w q2 x3 a1).bind fun w4 =>
    (gfI 1 3 w4 this).bind fun x5 =>
    (pfV 1 3 w4 this (.int (x5 + 1))).bind fun w6 =>
    some w6
def m_X3_around (a0 : Int32) (a1 : Int32) : Int32 :=
  (((((a0 >>> ((2 * a1) &&& 31 : Int32)) <<< ((2 * a1) &&& 31 : Int32)) * 8) + 6) - a1)
def m_X1_findNodes_p12 (n : Nat) (k2 : Wd → Nat → Int32 → Option Wd) : Nat → Wd → Nat → Int32 → Int32 → Option Wd
  | 0, _, _, _, _ => none
  | t + 1, w, a0, a1, a2 =>
    if a2 ≤ 0 then
      k2 w a0 (a1 + 1)
    else
      (chk 1 w a0).bind fun u1 =>
      (m_X1_beginsSquare n w a0 a1 a2).bind fun x2 =>
      if x2 = 0 then
        m_X1_findNodes_p12 n k2 t w a0 a1 (a2 + (-1))
      else
        (chk 1 w a0).bind fun u3 =>
        (m_X1_branches n w a0 a1 a2).bind fun x4 =>
        if x4 = 0 then
          m_X1_findNodes_p12 n k2 t w a0 a1 (a2 + (-1))
        else
          (gfR 1 0 w a0).bind fun q5 =>
          (agI 0 w q5 a1).bind fun x6 =>
          (chk 1 w a0).bind fun u7 =>
          (m_X1_keep n w a0 (m_X3_around x6 a2)).bind fun z8 =>
          m_X1_findNodes_p12 n k2 t z8 a0 a1 (a2 + (-1))
def m_X1_findNodes_p2 (n : Nat) : Nat → Wd → Nat → Int32 → Option Wd
  | 0, _, _, _ => none
  | t + 1, w, a0, a1 =>
    (gfI 1 1 w a0).bind fun x1 =>
    if x1 ≤ a1 then
      some w
    else
      m_X1_findNodes_p12 n (fun w b0 b1 => m_X1_findNodes_p2 n t w b0 b1) n w a0 a1 5
def m_X1_findNodes (n : Nat) (w : Wd) (this : Nat) : Option Wd :=
  m_X1_findNodes_p2 n n w this 0
def m_X1_take (n : Nat) (w : Wd) (this : Nat) (a1 : Int32) : Option Wd :=
  (gfI 1 1 w this).bind fun x1 =>
  if 24 ≤ x1 then
    some w
  else
    (gfR 1 0 w this).bind fun q2 =>
    (gfI 1 1 w this).bind fun x3 =>
    (asI 0 w q2 x3 a1).bind fun w4 =>
    (gfI 1 1 w4 this).bind fun x5 =>
    (pfV 1 1 w4 this (.int (x5 + 1))).bind fun w6 =>
    some w6
def m_X6_heightOf_p6 (n : Nat) : Nat → Wd → Int32 → Int32 → Option Int32
  | 0, _, _, _ => none
  | t + 1, w, a1, a2 =>
    if 4 ≤ a1 then
      some a1
    else
      if (jrm a2 2) = 0 then
        m_X6_heightOf_p6 n t w (a1 + 1) (a2 / 2)
      else
        some a1
def m_X6_heightOf (n : Nat) (w : Wd) (a0 : Int32) : Option Int32 :=
  m_X6_heightOf_p6 n n w 0 (a0 + 1)
def m_X0_plant_p52 (n : Nat) (k30 : Wd → Nat → Int32 → Int32 → Option Wd) : Nat → Wd → Nat → Int32 → Int32 → Int32 → Int32 → Option Wd
  | 0, _, _, _, _, _, _ => none
  | t + 1, w, a0, a2, a3, a4, a5 =>
    if a4 < a5 then
      k30 w a0 a2 (a3 + 1)
    else
      (gfR 0 0 w a0).bind fun q1 =>
      (agQ 3 w q1 a5).bind fun q2 =>
      (gfR 0 1 w a0).bind fun q3 =>
      (agI 0 w q3 a3).bind fun x4 =>
      (chk 1 w q2).bind fun u5 =>
      (m_X1_take n w q2 (x4 / 32)).bind fun z6 =>
      m_X0_plant_p52 n k30 t z6 a0 a2 a3 a4 (a5 + 1)
def m_X0_plant_p92 (n : Nat) : Nat → Wd → Nat → Int32 → Option Wd
  | 0, _, _, _ => none
  | t + 1, w, a0, a3 =>
    if 5 ≤ a3 then
      some w
    else
      (gfR 0 0 w a0).bind fun q1 =>
      (agQ 3 w q1 a3).bind fun q2 =>
      (chk 1 w q2).bind fun u3 =>
      (m_X1_findNodes n w q2).bind fun z4 =>
      m_X0_plant_p92 n t z4 a0 (a3 + 1)
def m_X0_plant_p90 (n : Nat) (w : Wd) (a0 : Nat) : Option Wd :=
  m_X0_plant_p92 n n w a0 0
def m_X0_plant_p30 (n : Nat) : Nat → Wd → Nat → Int32 → Int32 → Option Wd
  | 0, _, _, _, _ => none
  | t + 1, w, a0, a2, a3 =>
    if a2 ≤ a3 then
      m_X0_plant_p90 n w a0
    else
      (gfR 0 1 w a0).bind fun q1 =>
      (agI 0 w q1 a3).bind fun x2 =>
      (m_X6_heightOf n w (jrm x2 32)).bind fun x3 =>
      m_X0_plant_p52 n (fun w b0 b2 b3 => m_X0_plant_p30 n t w b0 b2 b3) n w a0 a2 a3 x3 0
def m_X0_plant_p28 (n : Nat) (w : Wd) (a0 : Nat) (a2 : Int32) : Option Wd :=
  m_X0_plant_p30 n n w a0 a2 0
def m_X0_plant_p8 (n : Nat) : Nat → Wd → Nat → Int32 → Int32 → Option Wd
  | 0, _, _, _, _ => none
  | t + 1, w, a0, a2, a3 =>
    if 5 ≤ a3 then
      m_X0_plant_p28 n w a0 a2
    else
      (gfR 0 0 w a0).bind fun q1 =>
      (agQ 3 w q1 a3).bind fun q2 =>
      (chk 1 w q2).bind fun u3 =>
      (m_X1_clear n w q2).bind fun z4 =>
      m_X0_plant_p8 n t z4 a0 a2 (a3 + 1)
def m_X0_plant (n : Nat) (w : Wd) (this : Nat) (a1 : Nat) : Option Wd :=
  (chk 0 w this).bind fun u1 =>
  (m_X0_sortPoints n w this a1).bind fun z2 =>
  m_X0_plant_p8 n n z2.2 this z2.1 0
def m_X1_differences_p46 (n : Nat) (k7 : Wd → Nat → Nat → Int32 → Int32 → Int32 → Option Int32) (w : Wd) (a0 : Nat) (a1 : Nat) (a2 : Int32) (a3 : Int32) (a4 : Int32) : Option Int32 :=
  (gfI 1 3 w a1).bind fun x1 =>
  if x1 ≤ a3 then
    k7 w a0 a1 a2 a3 (a4 + 1)
  else
    (gfR 1 2 w a1).bind fun q2 =>
    (agI 0 w q2 a3).bind fun x3 =>
    (gfR 1 2 w a0).bind fun q4 =>
    (agI 0 w q4 a4).bind fun x5 =>
    if x3 = x5 then
      k7 w a0 a1 (a2 + 1) a3 (a4 + 1)
    else
      k7 w a0 a1 a2 a3 (a4 + 1)
def m_X1_differences_p16 (n : Nat) (k7 : Wd → Nat → Nat → Int32 → Int32 → Int32 → Option Int32) : Nat → Wd → Nat → Nat → Int32 → Int32 → Int32 → Option Int32
  | 0, _, _, _, _, _, _ => none
  | t + 1, w, a0, a1, a2, a3, a4 =>
    (gfI 1 3 w a1).bind fun x1 =>
    if x1 ≤ a3 then
      m_X1_differences_p46 n k7 w a0 a1 a2 a3 a4
    else
      (gfR 1 2 w a1).bind fun q2 =>
      (agI 0 w q2 a3).bind fun x3 =>
      (gfR 1 2 w a0).bind fun q4 =>
      (agI 0 w q4 a4).bind fun x5 =>
      if x5 ≤ x3 then
        m_X1_differences_p46 n k7 w a0 a1 a2 a3 a4
      else
        m_X1_differences_p16 n k7 t w a0 a1 a2 (a3 + 1) a4
def m_X1_differences_p79 (n : Nat) (w : Wd) (a0 : Nat) (a1 : Nat) (a2 : Int32) : Option Int32 :=
  (gfI 1 3 w a0).bind fun x1 =>
  (gfI 1 3 w a1).bind fun x2 =>
  some ((x1 + x2) - (2 * a2))
def m_X1_differences_p7 (n : Nat) : Nat → Wd → Nat → Nat → Int32 → Int32 → Int32 → Option Int32
  | 0, _, _, _, _, _, _ => none
  | t + 1, w, a0, a1, a2, a3, a4 =>
    (gfI 1 3 w a0).bind fun x1 =>
    if x1 ≤ a4 then
      m_X1_differences_p79 n w a0 a1 a2
    else
      m_X1_differences_p16 n (fun w b0 b1 b2 b3 b4 => m_X1_differences_p7 n t w b0 b1 b2 b3 b4) n w a0 a1 a2 a3 a4
def m_X1_differences (n : Nat) (w : Wd) (this : Nat) (a1 : Nat) : Option Int32 :=
  m_X1_differences_p7 n n w this a1 0 0 0
def m_X0_differences_p4 (n : Nat) : Nat → Wd → Nat → Nat → Int32 → Int32 → Option Int32
  | 0, _, _, _, _, _ => none
  | t + 1, w, a0, a1, a2, a3 =>
    if 5 ≤ a3 then
      some a2
    else
      (gfR 0 0 w a0).bind fun q1 =>
      (agQ 3 w q1 a3).bind fun q2 =>
      (gfR 0 0 w a1).bind fun q3 =>
      (agQ 3 w q3 a3).bind fun q4 =>
      (chk 1 w q2).bind fun u5 =>
      (m_X1_differences n w q2 q4).bind fun x6 =>
      m_X0_differences_p4 n t w a0 a1 (a2 + x6) (a3 + 1)
def m_X0_differences (n : Nat) (w : Wd) (this : Nat) (a1 : Nat) : Option Int32 :=
  m_X0_differences_p4 n n w this a1 0 0
def m_X0_greatestLevel_p4 (n : Nat) : Nat → Wd → Nat → Int32 → Int32 → Option Int32
  | 0, _, _, _, _ => none
  | t + 1, w, a0, a1, a2 =>
    if 5 ≤ a2 then
      some a1
    else
      (gfR 0 0 w a0).bind fun q1 =>
      (agQ 3 w q1 a2).bind fun q2 =>
      (gfI 1 1 w q2).bind fun x3 =>
      if x3 ≤ 0 then
        m_X0_greatestLevel_p4 n t w a0 a1 (a2 + 1)
      else
        m_X0_greatestLevel_p4 n t w a0 a2 (a2 + 1)
def m_X0_greatestLevel (n : Nat) (w : Wd) (this : Nat) : Option Int32 :=
  m_X0_greatestLevel_p4 n n w this 0 0
def m_X1_indexOf_p2 (n : Nat) : Nat → Wd → Nat → Int32 → Int32 → Option Int32
  | 0, _, _, _, _ => none
  | t + 1, w, a0, a1, a2 =>
    (gfI 1 3 w a0).bind fun x1 =>
    if (x1 - 1) ≤ a2 then
      some a2
    else
      (gfR 1 2 w a0).bind fun q2 =>
      (agI 0 w q2 a2).bind fun x3 =>
      if a1 ≤ x3 then
        some a2
      else
        m_X1_indexOf_p2 n t w a0 a1 (a2 + 1)
def m_X1_indexOf (n : Nat) (w : Wd) (this : Nat) (a1 : Int32) : Option Int32 :=
  m_X1_indexOf_p2 n n w this a1 0
def m_X3_corner (a0 : Int32) : Int32 :=
  (a0 / 8)
def m_X3_exponent (a0 : Int32) : Int32 :=
  (6 - (jrm a0 8))
def m_X3_holds (a0 : Int32) (a1 : Int32) : Int32 :=
  if ((a1 ^^^ (m_X3_corner a0)) >>> ((2 * (m_X3_exponent a0)) &&& 31 : Int32)) = 0 then
    1
  else
    0
def m_X1_greatestNodeAround_p4 (n : Nat) : Nat → Wd → Nat → Int32 → Int32 → Option Int32
  | 0, _, _, _, _ => none
  | t + 1, w, a0, a1, a3 =>
    (gfI 1 3 w a0).bind fun x1 =>
    if x1 ≤ a3 then
      some (-1)
    else
      (gfR 1 2 w a0).bind fun q2 =>
      (agI 0 w q2 a3).bind fun x3 =>
      if (m_X3_holds x3 a1) = 0 then
        m_X1_greatestNodeAround_p4 n t w a0 a1 (a3 + 1)
      else
        some a3
def m_X1_greatestNodeAround (n : Nat) (w : Wd) (this : Nat) (a1 : Int32) (a2 : Int32) : Option Int32 :=
  m_X1_greatestNodeAround_p4 n n w this a1 (a2 + 1)
def m_X3_quadrant (a0 : Int32) (a1 : Int32) : Int32 :=
  ((a1 >>> (((2 * (m_X3_exponent a0)) - 2) &&& 31 : Int32)) &&& 3)
def m_X3_gather (a0 : Int32) : Int32 :=
  nm1 (α := Int32) (((((a0 &&& 21845) ||| ((a0 &&& 21845) >>> (1 &&& 31 : Int32))) &&& 13107) ||| ((((a0 &&& 21845) ||| ((a0 &&& 21845) >>> (1 &&& 31 : Int32))) &&& 13107) >>> (2 &&& 31 : Int32))) &&& 3855) fun y1 =>
  ((y1 ||| (y1 >>> (4 &&& 31 : Int32))) &&& 255)
def m_X3_xOf (a0 : Int32) : Int32 :=
  (m_X3_gather a0)
def m_X3_yOf (a0 : Int32) : Int32 :=
  (m_X3_gather (a0 >>> (1 &&& 31 : Int32)))
def m_X1_childOf_p89 (n : Nat) (w : Wd) (a0 : Nat) (a1 : Int32) (a4 : Int32) (a5 : Int32) : Option Int32 :=
  if a4 = a5 then
    if a4 = (-1) then
      some (-1)
    else
      some ((1000 + (64 * (m_X3_yOf a4))) + (m_X3_xOf a4))
  else
    (chk 1 w a0).bind fun u1 =>
    (m_X1_greatestNodeAround n w a0 a4 a1).bind fun x2 =>
    some x2
def m_X1_childOf_p16 (n : Nat) : Nat → Wd → Nat → Int32 → Int32 → Int32 → Int32 → Int32 → Int32 → Option Int32
  | 0, _, _, _, _, _, _, _, _ => none
  | t + 1, w, a0, a1, a2, a3, a4, a5, a6 =>
    (gfI 1 1 w a0).bind fun x1 =>
    if x1 ≤ a6 then
      m_X1_childOf_p89 n w a0 a1 a4 a5
    else
      (gfR 1 0 w a0).bind fun q2 =>
      (agI 0 w q2 a6).bind fun x3 =>
      if (m_X3_holds a3 x3) = 0 then
        m_X1_childOf_p16 n t w a0 a1 a2 a3 a4 a5 (a6 + 1)
      else
        (gfR 1 0 w a0).bind fun q4 =>
        (agI 0 w q4 a6).bind fun x5 =>
        if (m_X3_quadrant a3 x5) = a2 then
          if a4 = (-1) then
            (gfR 1 0 w a0).bind fun q8 =>
            (agI 0 w q8 a6).bind fun x9 =>
            (gfR 1 0 w a0).bind fun q10 =>
            (agI 0 w q10 a6).bind fun x11 =>
            m_X1_childOf_p16 n t w a0 a1 a2 a3 x9 x11 (a6 + 1)
          else
            (gfR 1 0 w a0).bind fun q6 =>
            (agI 0 w q6 a6).bind fun x7 =>
            m_X1_childOf_p16 n t w a0 a1 a2 a3 a4 x7 (a6 + 1)
        else
          m_X1_childOf_p16 n t w a0 a1 a2 a3 a4 a5 (a6 + 1)
def m_X1_childOf (n : Nat) (w : Wd) (this : Nat) (a1 : Int32) (a2 : Int32) : Option Int32 :=
  (gfR 1 2 w this).bind fun q1 =>
  (agI 0 w q1 a1).bind fun x2 =>
  m_X1_childOf_p16 n n w this a1 a2 x2 (-1) (-1) 0
def m_X1_stepTowards (n : Nat) (w : Wd) (this : Nat) (a1 : Int32) (a2 : Int32) : Option Int32 :=
  (gfR 1 2 w this).bind fun q1 =>
  (agI 0 w q1 a1).bind fun x2 =>
  (chk 1 w this).bind fun u3 =>
  (m_X1_childOf n w this a1 (m_X3_quadrant x2 a2)).bind fun x4 =>
  if x4 = (-1) then
    some (-1)
  else
    if x4 < 1000 then
      (gfR 1 2 w this).bind fun q5 =>
      (agI 0 w q5 x4).bind fun x6 =>
      if (m_X3_holds x6 a2) = 0 then
        some (-1)
      else
        some x4
    else
      some (-1)
def m_X0_find_p91 (n : Nat) (k27 : Wd → Nat → Int32 → Int32 → Int32 → Int32 → Option Int32) (w : Wd) (a0 : Nat) (a4 : Int32) (a5 : Int32) (a6 : Int32) (a7 : Int32) (a8 : Nat) : Option Int32 :=
  if a7 ≤ 0 then
    k27 w a0 a4 a5 a6 (a7 + (-1))
  else
    (gfR 0 0 w a0).bind fun q1 =>
    (agQ 3 w q1 (a7 - 1)).bind fun q2 =>
    (gfR 1 2 w a8).bind fun q3 =>
    (agI 0 w q3 a6).bind fun x4 =>
    (chk 1 w q2).bind fun u5 =>
    (m_X1_indexOf n w q2 x4).bind fun x6 =>
    k27 w a0 a4 (a5 + 1) x6 (a7 + (-1))
def m_X0_find_p55 (n : Nat) (k27 : Wd → Nat → Int32 → Int32 → Int32 → Int32 → Option Int32) : Nat → Wd → Nat → Int32 → Int32 → Int32 → Int32 → Nat → Int32 → Int32 → Option Int32
  | 0, _, _, _, _, _, _, _, _, _ => none
  | t + 1, w, a0, a4, a5, a6, a7, a8, a9, a10 =>
    if 5 ≤ a10 then
      m_X0_find_p91 n k27 w a0 a4 a5 a6 a7 a8
    else
      if a9 = (-1) then
        m_X0_find_p91 n k27 w a0 a4 a5 a6 a7 a8
      else
        (chk 1 w a8).bind fun u1 =>
        (m_X1_stepTowards n w a8 a9 a4).bind fun x2 =>
        m_X0_find_p55 n k27 t w a0 a4 (a5 + 1) a9 a7 a8 x2 (a10 + 1)
def m_X0_find_p127 (n : Nat) (w : Wd) (a5 : Int32) (a6 : Int32) : Option Int32 :=
  some ((a5 * 32) + a6)
def m_X0_find_p27 (n : Nat) : Nat → Wd → Nat → Int32 → Int32 → Int32 → Int32 → Option Int32
  | 0, _, _, _, _, _, _ => none
  | t + 1, w, a0, a4, a5, a6, a7 =>
    if a7 < 0 then
      m_X0_find_p127 n w a5 a6
    else
      (gfR 0 0 w a0).bind fun q1 =>
      (agQ 3 w q1 a7).bind fun q2 =>
      (chk 1 w q2).bind fun u3 =>
      (m_X1_stepTowards n w q2 a6 a4).bind fun x4 =>
      m_X0_find_p55 n (fun w b0 b4 b5 b6 b7 => m_X0_find_p27 n t w b0 b4 b5 b6 b7) n w a0 a4 a5 a6 a7 q2 x4 0
def m_X0_find (n : Nat) (w : Wd) (this : Nat) (a1 : Int32) (a2 : Int32) (a3 : Int32) : Option Int32 :=
  if a3 = 0 then
    m_X0_find_p27 n n w this (m_X3_code a1 a2) 0 0 0
  else
    (chk 0 w this).bind fun u1 =>
    (m_X0_greatestLevel n w this).bind fun x2 =>
    m_X0_find_p27 n n w this (m_X3_code a1 a2) 0 0 x2
def m_X1_depthOf_p4 (n : Nat) : Nat → Wd → Nat → Int32 → Int32 → Int32 → Option Int32
  | 0, _, _, _, _, _ => none
  | t + 1, w, a0, a1, a2, a3 =>
    if a1 ≤ a3 then
      some a2
    else
      (gfR 1 2 w a0).bind fun q1 =>
      (agI 0 w q1 a3).bind fun x2 =>
      (gfR 1 2 w a0).bind fun q3 =>
      (agI 0 w q3 a1).bind fun x4 =>
      if (m_X3_holds x2 (m_X3_corner x4)) = 0 then
        m_X1_depthOf_p4 n t w a0 a1 a2 (a3 + 1)
      else
        m_X1_depthOf_p4 n t w a0 a1 (a2 + 1) (a3 + 1)
def m_X1_depthOf (n : Nat) (w : Wd) (this : Nat) (a1 : Int32) : Option Int32 :=
  m_X1_depthOf_p4 n n w this a1 0 0
def m_X1_greatestDepth_p4 (n : Nat) : Nat → Wd → Nat → Int32 → Int32 → Option Int32
  | 0, _, _, _, _ => none
  | t + 1, w, a0, a1, a2 =>
    (gfI 1 3 w a0).bind fun x1 =>
    if x1 ≤ a2 then
      some a1
    else
      (chk 1 w a0).bind fun u2 =>
      (m_X1_depthOf n w a0 a2).bind fun x3 =>
      m_X1_greatestDepth_p4 n t w a0 (mxI a1 x3) (a2 + 1)
def m_X1_greatestDepth (n : Nat) (w : Wd) (this : Nat) : Option Int32 :=
  m_X1_greatestDepth_p4 n n w this 0 0
def m_X1_pointsIn_p4 (n : Nat) : Nat → Wd → Nat → Int32 → Int32 → Int32 → Option Int32
  | 0, _, _, _, _, _ => none
  | t + 1, w, a0, a1, a2, a3 =>
    (gfI 1 1 w a0).bind fun x1 =>
    if x1 ≤ a3 then
      some a2
    else
      (gfR 1 0 w a0).bind fun q2 =>
      (agI 0 w q2 a3).bind fun x3 =>
      if (m_X3_holds a1 x3) = 0 then
        m_X1_pointsIn_p4 n t w a0 a1 a2 (a3 + 1)
      else
        m_X1_pointsIn_p4 n t w a0 a1 (a2 + 1) (a3 + 1)
def m_X1_pointsIn (n : Nat) (w : Wd) (this : Nat) (a1 : Int32) : Option Int32 :=
  m_X1_pointsIn_p4 n n w this a1 0 0
def m_J6_bitCount_0f7a4 (a0 : Int32) : Int32 :=
  nm1 (α := Int32) (a0 - ((((Int32.toUInt32 a0) >>> (Int32.toUInt32 1 &&& Int32.toUInt32 31)).toInt32) &&& 1431655765)) fun y1 =>
  nm1 (α := Int32) ((y1 &&& 858993459) + ((((Int32.toUInt32 y1) >>> (Int32.toUInt32 2 &&& Int32.toUInt32 31)).toInt32) &&& 858993459)) fun y2 =>
  nm1 (α := Int32) ((y2 + (((Int32.toUInt32 y2) >>> (Int32.toUInt32 4 &&& Int32.toUInt32 31)).toInt32)) &&& 252645135) fun y3 =>
  nm1 (α := Int32) (y3 + (((Int32.toUInt32 y3) >>> (Int32.toUInt32 8 &&& Int32.toUInt32 31)).toInt32)) fun y4 =>
  nm1 (α := Int32) (y4 + (((Int32.toUInt32 y4) >>> (Int32.toUInt32 16 &&& Int32.toUInt32 31)).toInt32)) fun y5 =>
  (y5 &&& 63)
def m_X1_quadrantsIn_p46 (n : Nat) (w : Wd) (a2 : Int32) : Option Int32 :=
  some (m_J6_bitCount_0f7a4 a2)
def m_X1_quadrantsIn_p4 (n : Nat) : Nat → Wd → Nat → Int32 → Int32 → Int32 → Option Int32
  | 0, _, _, _, _, _ => none
  | t + 1, w, a0, a1, a2, a3 =>
    (gfI 1 1 w a0).bind fun x1 =>
    if x1 ≤ a3 then
      m_X1_quadrantsIn_p46 n w a2
    else
      (gfR 1 0 w a0).bind fun q2 =>
      (agI 0 w q2 a3).bind fun x3 =>
      if (m_X3_holds a1 x3) = 0 then
        m_X1_quadrantsIn_p4 n t w a0 a1 a2 (a3 + 1)
      else
        (gfR 1 0 w a0).bind fun q4 =>
        (agI 0 w q4 a3).bind fun x5 =>
        m_X1_quadrantsIn_p4 n t w a0 a1 (a2 ||| (1 <<< ((m_X3_quadrant a1 x5) &&& 31 : Int32))) (a3 + 1)
def m_X1_quadrantsIn (n : Nat) (w : Wd) (this : Nat) (a1 : Int32) : Option Int32 :=
  m_X1_quadrantsIn_p4 n n w this a1 0 0
def m_X1_positionChildren_p14 (n : Nat) (k4 : Wd → Nat → Int32 → Int32 → Option Int32) : Nat → Wd → Nat → Int32 → Int32 → Int32 → Option Int32
  | 0, _, _, _, _, _ => none
  | t + 1, w, a0, a1, a2, a3 =>
    if 4 ≤ a3 then
      k4 w a0 a1 (a2 + 1)
    else
      (chk 1 w a0).bind fun u1 =>
      (m_X1_childOf n w a0 a2 a3).bind fun x2 =>
      if x2 < 1000 then
        m_X1_positionChildren_p14 n k4 t w a0 a1 a2 (a3 + 1)
      else
        m_X1_positionChildren_p14 n k4 t w a0 (a1 + 1) a2 (a3 + 1)
def m_X1_positionChildren_p4 (n : Nat) : Nat → Wd → Nat → Int32 → Int32 → Option Int32
  | 0, _, _, _, _ => none
  | t + 1, w, a0, a1, a2 =>
    (gfI 1 3 w a0).bind fun x1 =>
    if x1 ≤ a2 then
      some a1
    else
      m_X1_positionChildren_p14 n (fun w b0 b1 b2 => m_X1_positionChildren_p4 n t w b0 b1 b2) n w a0 a1 a2 0
def m_X1_positionChildren (n : Nat) (w : Wd) (this : Nat) : Option Int32 :=
  m_X1_positionChildren_p4 n n w this 0 0
def m_X1_differentPositions_p4 (n : Nat) : Nat → Wd → Nat → Int32 → Int32 → Option Int32
  | 0, _, _, _, _ => none
  | t + 1, w, a0, a1, a2 =>
    (gfI 1 1 w a0).bind fun x1 =>
    if x1 ≤ a2 then
      some a1
    else
      if a2 = 0 then
        m_X1_differentPositions_p4 n t w a0 (a1 + 1) (a2 + 1)
      else
        (gfR 1 0 w a0).bind fun q2 =>
        (agI 0 w q2 a2).bind fun x3 =>
        (gfR 1 0 w a0).bind fun q4 =>
        (agI 0 w q4 (a2 - 1)).bind fun x5 =>
        if x3 = x5 then
          m_X1_differentPositions_p4 n t w a0 a1 (a2 + 1)
        else
          m_X1_differentPositions_p4 n t w a0 (a1 + 1) (a2 + 1)
def m_X1_differentPositions (n : Nat) (w : Wd) (this : Nat) : Option Int32 :=
  m_X1_differentPositions_p4 n n w this 0 0
def m_X3_size (a0 : Int32) : Int32 :=
  (1 <<< ((m_X3_exponent a0) &&& 31 : Int32))
def m_X6_distance (a0 : Int32) (a1 : Int32) (a2 : Int32) (a3 : Int32) : Int32 :=
  (((a0 - a2) * (a0 - a2)) + ((a1 - a3) * (a1 - a3)))
def m_X3_distanceTo (a0 : Int32) (a1 : Int32) (a2 : Int32) : Int32 :=
  nm1 (α := Int32) (mxI (m_X3_xOf (m_X3_corner a0)) (mnI a1 ((m_X3_xOf (m_X3_corner a0)) + ((m_X3_size a0) - 1)))) fun y1 =>
  nm1 (α := Int32) (mxI (m_X3_yOf (m_X3_corner a0)) (mnI a2 ((m_X3_yOf (m_X3_corner a0)) + ((m_X3_size a0) - 1)))) fun y2 =>
  (m_X6_distance a1 a2 y1 y2)
def m_X1_nodesWithin_p6 (n : Nat) : Nat → Wd → Nat → Int32 → Int32 → Int32 → Int32 → Int32 → Option Int32
  | 0, _, _, _, _, _, _, _ => none
  | t + 1, w, a0, a1, a2, a3, a4, a5 =>
    (gfI 1 3 w a0).bind fun x1 =>
    if x1 ≤ a5 then
      some a4
    else
      (gfR 1 2 w a0).bind fun q2 =>
      (agI 0 w q2 a5).bind fun x3 =>
      if a1 < (m_X3_distanceTo x3 a2 a3) then
        m_X1_nodesWithin_p6 n t w a0 a1 a2 a3 a4 (a5 + 1)
      else
        m_X1_nodesWithin_p6 n t w a0 a1 a2 a3 (a4 + 1) (a5 + 1)
def m_X1_nodesWithin (n : Nat) (w : Wd) (this : Nat) (a1 : Int32) (a2 : Int32) (a3 : Int32) : Option Int32 :=
  m_X1_nodesWithin_p6 n n w this a1 a2 a3 0 0
def m_X2_append (n : Nat) (w : Wd) (this : Nat) (a1 : Int32) : Option Wd :=
  (gfI 2 1 w this).bind fun x1 =>
  if 120 ≤ x1 then
    some w
  else
    (gfR 2 0 w this).bind fun q2 =>
    (gfI 2 1 w this).bind fun x3 =>
    (asI 0 w q2 x3 a1).bind fun w4 =>
    (gfI 2 1 w4 this).bind fun x5 =>
    (pfV 2 1 w4 this (.int (x5 + 1))).bind fun w6 =>
    some w6
def m_X4_copy_p123 (n : Nat) (w : Wd) (a0 : Nat) (a1 : Nat) : Option Wd :=
  (gfI 3 8 w a1).bind fun x1 =>
  (pfV 3 8 w a0 (.int x1)).bind fun w2 =>
  some w2
def m_X4_copy_p76 (n : Nat) : Nat → Wd → Nat → Nat → Int32 → Option Wd
  | 0, _, _, _, _ => none
  | t + 1, w, a0, a1, a2 =>
    if 4 ≤ a2 then
      m_X4_copy_p123 n w a0 a1
    else
      (gfR 3 5 w a0).bind fun q1 =>
      (gfR 3 5 w a1).bind fun q2 =>
      (agI 0 w q2 a2).bind fun x3 =>
      (asI 0 w q1 a2 x3).bind fun w4 =>
      (gfR 3 6 w4 a0).bind fun q5 =>
      (gfR 3 6 w4 a1).bind fun q6 =>
      (agI 0 w4 q6 a2).bind fun x7 =>
      (asI 0 w4 q5 a2 x7).bind fun w8 =>
      (gfR 3 7 w8 a0).bind fun q9 =>
      (gfR 3 7 w8 a1).bind fun q10 =>
      (agI 0 w8 q10 a2).bind fun x11 =>
      (asI 0 w8 q9 a2 x11).bind fun w12 =>
      m_X4_copy_p76 n t w12 a0 a1 (a2 + 1)
def m_X4_copy_p74 (n : Nat) (w : Wd) (a0 : Nat) (a1 : Nat) : Option Wd :=
  m_X4_copy_p76 n n w a0 a1 0
def m_X4_copy_p2 (n : Nat) : Nat → Wd → Nat → Nat → Int32 → Option Wd
  | 0, _, _, _, _ => none
  | t + 1, w, a0, a1, a2 =>
    if 24 ≤ a2 then
      m_X4_copy_p74 n w a0 a1
    else
      (gfR 3 0 w a0).bind fun q1 =>
      (gfR 3 0 w a1).bind fun q2 =>
      (agI 1 w q2 a2).bind fun x3 =>
      (asI 1 w q1 a2 (vp_nar .boolean x3)).bind fun w4 =>
      (gfR 3 1 w4 a0).bind fun q5 =>
      (gfR 3 1 w4 a1).bind fun q6 =>
      (agI 0 w4 q6 a2).bind fun x7 =>
      (asI 0 w4 q5 a2 x7).bind fun w8 =>
      (gfR 3 2 w8 a0).bind fun q9 =>
      (gfR 3 2 w8 a1).bind fun q10 =>
      (agI 0 w8 q10 a2).bind fun x11 =>
      (asI 0 w8 q9 a2 x11).bind fun w12 =>
      (gfR 3 3 w12 a0).bind fun q13 =>
      (gfR 3 3 w12 a1).bind fun q14 =>
      (agI 0 w12 q14 a2).bind fun x15 =>
      (asI 0 w12 q13 a2 x15).bind fun w16 =>
      (gfR 3 4 w16 a0).bind fun q17 =>
      (gfR 3 4 w16 a1).bind fun q18 =>
      (agI 0 w16 q18 a2).bind fun x19 =>
      (asI 0 w16 q17 a2 x19).bind fun w20 =>
      m_X4_copy_p2 n t w20 a0 a1 (a2 + 1)
def m_X4_copy (n : Nat) (w : Wd) (this : Nat) (a1 : Nat) : Option Wd :=
  m_X4_copy_p2 n n w this a1 0
def m_X4_put (n : Nat) (w : Wd) (this : Nat) (a1 : Int32) (a2 : Int32) (a3 : Int32) : Option Wd :=
  (gfR 3 0 w this).bind fun q1 =>
  (asI 1 w q1 a1 (vp_nar .boolean 1)).bind fun w2 =>
  (gfR 3 1 w2 this).bind fun q3 =>
  (asI 0 w2 q3 a1 a2).bind fun w4 =>
  (gfR 3 2 w4 this).bind fun q5 =>
  (asI 0 w4 q5 a1 a3).bind fun w6 =>
  some w6
def m_X4_clear (n : Nat) (w : Wd) (this : Nat) (a1 : Int32) : Option Wd :=
  (gfR 3 0 w this).bind fun q1 =>
  (asI 1 w q1 a1 (vp_nar .boolean 0)).bind fun w2 =>
  (gfR 3 1 w2 this).bind fun q3 =>
  (asI 0 w2 q3 a1 0).bind fun w4 =>
  (gfR 3 2 w4 this).bind fun q5 =>
  (asI 0 w4 q5 a1 0).bind fun w6 =>
  (gfR 3 3 w6 this).bind fun q7 =>
  (asI 0 w6 q7 a1 0).bind fun w8 =>
  (gfR 3 4 w8 this).bind fun q9 =>
  (asI 0 w8 q9 a1 0).bind fun w10 =>
  some w10
def m_X4_reflected (a0 : Int32) : Int32 :=
  if 0 ≤ a0 then
    if 64 ≤ a0 then
      (126 - a0)
    else
      a0
  else
    (-a0)
def m_X4_step_p126 (n : Nat) (w : Wd) (a0 : Nat) : Option Wd :=
  (gfI 3 8 w a0).bind fun x1 =>
  (pfV 3 8 w a0 (.int (x1 + 1))).bind fun w2 =>
  some w2
def m_X4_step_p2 (n : Nat) : Nat → Wd → Nat → Int32 → Option Wd
  | 0, _, _, _ => none
  | t + 1, w, a0, a1 =>
    if 24 ≤ a1 then
      m_X4_step_p126 n w a0
    else
      (gfR 3 1 w a0).bind fun q1 =>
      (agI 0 w q1 a1).bind fun x2 =>
      (gfR 3 3 w a0).bind fun q3 =>
      (agI 0 w q3 a1).bind fun x4 =>
      (gfR 3 2 w a0).bind fun q5 =>
      (agI 0 w q5 a1).bind fun x6 =>
      (gfR 3 4 w a0).bind fun q7 =>
      (agI 0 w q7 a1).bind fun x8 =>
      (gfR 3 1 w a0).bind fun q9 =>
      (asI 0 w q9 a1 (m_X4_reflected (x2 + x4))).bind fun w10 =>
      (gfR 3 2 w10 a0).bind fun q11 =>
      (asI 0 w10 q11 a1 (m_X4_reflected (x6 + x8))).bind fun w12 =>
      (gfR 3 3 w12 a0).bind fun q13 =>
      (gfR 3 1 w12 a0).bind fun q14 =>
      (agI 0 w12 q14 a1).bind fun x15 =>
      if x15 = (x2 + x4) then
        (gfR 3 3 w12 a0).bind fun q28 =>
        (agI 0 w12 q28 a1).bind fun x29 =>
        (asI 0 w12 q13 a1 x29).bind fun w30 =>
        (gfR 3 4 w30 a0).bind fun q31 =>
        (gfR 3 2 w30 a0).bind fun q32 =>
        (agI 0 w30 q32 a1).bind fun x33 =>
        if x33 = (x6 + x8) then
          (gfR 3 4 w30 a0).bind fun q37 =>
          (agI 0 w30 q37 a1).bind fun x38 =>
          (asI 0 w30 q31 a1 x38).bind fun w39 =>
          m_X4_step_p2 n t w39 a0 (a1 + 1)
        else
          (gfR 3 4 w30 a0).bind fun q34 =>
          (agI 0 w30 q34 a1).bind fun x35 =>
          (asI 0 w30 q31 a1 (-x35)).bind fun w36 =>
          m_X4_step_p2 n t w36 a0 (a1 + 1)
      else
        (gfR 3 3 w12 a0).bind fun q16 =>
        (agI 0 w12 q16 a1).bind fun x17 =>
        (asI 0 w12 q13 a1 (-x17)).bind fun w18 =>
        (gfR 3 4 w18 a0).bind fun q19 =>
        (gfR 3 2 w18 a0).bind fun q20 =>
        (agI 0 w18 q20 a1).bind fun x21 =>
        if x21 = (x6 + x8) then
          (gfR 3 4 w18 a0).bind fun q25 =>
          (agI 0 w18 q25 a1).bind fun x26 =>
          (asI 0 w18 q19 a1 x26).bind fun w27 =>
          m_X4_step_p2 n t w27 a0 (a1 + 1)
        else
          (gfR 3 4 w18 a0).bind fun q22 =>
          (agI 0 w18 q22 a1).bind fun x23 =>
          (asI 0 w18 q19 a1 (-x23)).bind fun w24 =>
          m_X4_step_p2 n t w24 a0 (a1 + 1)
def m_X4_step (n : Nat) (w : Wd) (this : Nat) : Option Wd :=
  m_X4_step_p2 n n w this 0
def m_X4_count_p4 (n : Nat) : Nat → Wd → Nat → Int32 → Int32 → Option Int32
  | 0, _, _, _, _ => none
  | t + 1, w, a0, a1, a2 =>
    if 24 ≤ a2 then
      some a1
    else
      (gfR 3 0 w a0).bind fun q1 =>
      (agI 1 w q1 a2).bind fun x2 =>
      if x2 = 0 then
        m_X4_count_p4 n t w a0 (a1 + 0) (a2 + 1)
      else
        m_X4_count_p4 n t w a0 (a1 + 1) (a2 + 1)
def m_X4_count (n : Nat) (w : Wd) (this : Nat) : Option Int32 :=
  m_X4_count_p4 n n w this 0 0
def m_X4_pairOf (n : Nat) (w : Wd) (this : Nat) (a1 : Int32) (a2 : Int32) (a3 : Int32) : Option Int32 :=
  (gfR 3 1 w this).bind fun q1 =>
  (agI 0 w q1 a1).bind fun x2 =>
  (gfR 3 2 w this).bind fun q3 =>
  (agI 0 w q3 a1).bind fun x4 =>
  some (((m_X6_distance x2 x4 a2 a3) * 32) + a1)
def m_X4_pairAfter_p6 (n : Nat) : Nat → Wd → Nat → Int32 → Int32 → Int32 → Int32 → Int32 → Option Int32
  | 0, _, _, _, _, _, _, _ => none
  | t + 1, w, a0, a1, a2, a3, a4, a5 =>
    if 24 ≤ a5 then
      some a4
    else
      (chk 3 w a0).bind fun u1 =>
      (m_X4_pairOf n w a0 a5 a2 a3).bind fun x2 =>
      (gfR 3 0 w a0).bind fun q3 =>
      (agI 1 w q3 a5).bind fun x4 =>
      if x4 = 0 then
        m_X4_pairAfter_p6 n t w a0 a1 a2 a3 a4 (a5 + 1)
      else
        if x2 ≤ a1 then
          m_X4_pairAfter_p6 n t w a0 a1 a2 a3 a4 (a5 + 1)
        else
          if a4 = (-1) then
            m_X4_pairAfter_p6 n t w a0 a1 a2 a3 x2 (a5 + 1)
          else
            if a4 ≤ x2 then
              m_X4_pairAfter_p6 n t w a0 a1 a2 a3 a4 (a5 + 1)
            else
              m_X4_pairAfter_p6 n t w a0 a1 a2 a3 x2 (a5 + 1)
def m_X4_pairAfter (n : Nat) (w : Wd) (this : Nat) (a1 : Int32) (a2 : Int32) (a3 : Int32) : Option Int32 :=
  m_X4_pairAfter_p6 n n w this a1 a2 a3 (-1) 0
def m_X4_pairsAfter_p6 (n : Nat) : Nat → Wd → Nat → Int32 → Int32 → Int32 → Int32 → Int32 → Option Int32
  | 0, _, _, _, _, _, _, _ => none
  | t + 1, w, a0, a1, a2, a3, a4, a5 =>
    if 24 ≤ a5 then
      some a4
    else
      (gfR 3 0 w a0).bind fun q1 =>
      (agI 1 w q1 a5).bind fun x2 =>
      if x2 = 0 then
        m_X4_pairsAfter_p6 n t w a0 a1 a2 a3 a4 (a5 + 1)
      else
        (chk 3 w a0).bind fun u3 =>
        (m_X4_pairOf n w a0 a5 a2 a3).bind fun x4 =>
        if x4 ≤ a1 then
          m_X4_pairsAfter_p6 n t w a0 a1 a2 a3 a4 (a5 + 1)
        else
          m_X4_pairsAfter_p6 n t w a0 a1 a2 a3 (a4 + 1) (a5 + 1)
def m_X4_pairsAfter (n : Nat) (w : Wd) (this : Nat) (a1 : Int32) (a2 : Int32) (a3 : Int32) : Option Int32 :=
  m_X4_pairsAfter_p6 n n w this a1 a2 a3 0 0
def m_X4_closestCouple_p14 (n : Nat) (k4 : Wd → Nat → Int32 → Int32 → Option Int32) : Nat → Wd → Nat → Int32 → Int32 → Int32 → Option Int32
  | 0, _, _, _, _, _ => none
  | t + 1, w, a0, a1, a2, a3 =>
    (gfR 3 0 w a0).bind fun q1 =>
    (agI 1 w q1 a2).bind fun x2 =>
    if x2 = 0 then
      k4 w a0 a1 (a2 + 1)
    else
      if 24 ≤ a3 then
        k4 w a0 a1 (a2 + 1)
      else
        (gfR 3 1 w a0).bind fun q3 =>
        (agI 0 w q3 a3).bind fun x4 =>
        (gfR 3 2 w a0).bind fun q5 =>
        (agI 0 w q5 a3).bind fun x6 =>
        (chk 3 w a0).bind fun u7 =>
        (m_X4_pairOf n w a0 a2 x4 x6).bind fun x8 =>
        (gfR 3 0 w a0).bind fun q9 =>
        (agI 1 w q9 a3).bind fun x10 =>
        if x10 = 0 then
          m_X4_closestCouple_p14 n k4 t w a0 a1 a2 (a3 + 1)
        else
          if a1 = (-1) then
            m_X4_closestCouple_p14 n k4 t w a0 ((x8 * 32) + a3) a2 (a3 + 1)
          else
            if a1 ≤ ((x8 * 32) + a3) then
              m_X4_closestCouple_p14 n k4 t w a0 a1 a2 (a3 + 1)
            else
              m_X4_closestCouple_p14 n k4 t w a0 ((x8 * 32) + a3) a2 (a3 + 1)
def m_X4_closestCouple_p4 (n : Nat) : Nat → Wd → Nat → Int32 → Int32 → Option Int32
  | 0, _, _, _, _ => none
  | t + 1, w, a0, a1, a2 =>
    if 24 ≤ a2 then
      some a1
    else
      m_X4_closestCouple_p14 n (fun w b0 b1 b2 => m_X4_closestCouple_p4 n t w b0 b1 b2) n w a0 a1 a2 (a2 + 1)
def m_X4_closestCouple (n : Nat) (w : Wd) (this : Nat) : Option Int32 :=
  m_X4_closestCouple_p4 n n w this (-1) 0
def m_X5_push (n : Nat) (w : Wd) (this : Nat) (a1 : Nat) : Option Wd :=
  (gfR 4 0 w this).bind fun q1 =>
  (gfI 4 1 w this).bind fun x2 =>
  (agQ 4 w q1 x2).bind fun q3 =>
  (chk 3 w q3).bind fun u4 =>
  (m_X4_copy n w q3 a1).bind fun z5 =>
  (gfI 4 1 z5 this).bind fun x6 =>
  (pfV 4 1 z5 this (.int (jrm (x6 + 1) 4))).bind fun w7 =>
  (gfI 4 2 w7 this).bind fun x8 =>
  (pfV 4 2 w7 this (.int (mnI (x8 + 1) 4))).bind fun w9 =>
  some w9
def m_X5_pop (n : Nat) (w : Wd) (this : Nat) (a1 : Nat) : Option Wd :=
  (gfI 4 1 w this).bind fun x1 =>
  (pfV 4 1 w this (.int (jrm ((x1 + 4) - 1) 4))).bind fun w2 =>
  (gfI 4 2 w2 this).bind fun x3 =>
  (pfV 4 2 w2 this (.int (x3 - 1))).bind fun w4 =>
  (gfR 4 0 w4 this).bind fun q5 =>
  (gfI 4 1 w4 this).bind fun x6 =>
  (agQ 4 w4 q5 x6).bind fun q7 =>
  (chk 3 w4 a1).bind fun u8 =>
  (m_X4_copy n w4 a1 q7).bind fun z9 =>
  some z9
def m_X6_settle (n : Nat) (w : Wd) (this : Nat) : Option (Int32 × Wd) :=
  (gfR 5 4 w this).bind fun q1 =>
  (gfR 5 0 w this).bind fun q2 =>
  (chk 0 w q1).bind fun u3 =>
  (m_X0_plant n w q1 q2).bind fun z4 =>
  (gfR 5 3 z4 this).bind fun q5 =>
  (gfR 5 4 z4 this).bind fun q6 =>
  (chk 0 z4 q5).bind fun u7 =>
  (m_X0_differences n z4 q5 q6).bind fun x8 =>
  (gfR 5 3 z4 this).bind fun q9 =>
  (gfR 5 4 z4 this).bind fun q10 =>
  (pfV 5 3 z4 this (.ref q10)).bind fun w11 =>
  (pfV 5 4 w11 this (.ref q9)).bind fun w12 =>
  some (x8, w12)
def m_X6_place (n : Nat) (w : Wd) (this : Nat) (a1 : Int32) (a2 : Int32) (a3 : Int32) : Option (Int32 × Wd) :=
  (gfR 5 0 w this).bind fun q1 =>
  (chk 3 w q1).bind fun u2 =>
  (m_X4_put n w q1 a1 a2 a3).bind fun z3 =>
  (chk 5 z3 this).bind fun u4 =>
  (m_X6_settle n z3 this).bind fun z5 =>
  some (z5.1, z5.2)
def m_X6_inside (a0 : Int32) (a1 : Int32) (a2 : Int32) : Int32 :=
  if a0 < a1 then
    0
  else
    if a2 < a0 then
      0
    else
      1
def m_X6_isId (a0 : Int32) : Int32 :=
  (m_X6_inside a0 0 23)
def m_X6_isPosition (a0 : Int32) (a1 : Int32) : Int32 :=
  if (m_X6_inside a0 0 63) = 0 then
    0
  else
    if (m_X6_inside a1 0 63) = 0 then
      0
    else
      1
def m_X6_refusalOfPlace (n : Nat) (w : Wd) (this : Nat) (a1 : Int32) (a2 : Int32) (a3 : Int32) (a4 : Int32) : Option Int32 :=
  if (m_X6_isId a1) = 0 then
    some 1
  else
    if (m_X6_isPosition a2 a3) = 0 then
      some 2
    else
      (gfR 5 0 w this).bind fun q1 =>
      (gfR 3 0 w q1).bind fun q2 =>
      (agI 1 w q2 a1).bind fun x3 =>
      if x3 = a4 then
        some 0
      else
        some 3
def m_X6_throwIf (n : Nat) (w : Wd) (a0 : Int32) : Option Unit :=
  if a0 = 1 then
    none
  else
    if a0 = 2 then
      none
    else
      if a0 = 3 then
        none
      else
        some ()
def m_X6_add (n : Nat) (w : Wd) (this : Nat) (a1 : Int32) (a2 : Int32) (a3 : Int32) : Option (Int32 × Wd) :=
  (chk 5 w this).bind fun u1 =>
  (m_X6_refusalOfPlace n w this a1 a2 a3 0).bind fun x2 =>
  (m_X6_throwIf n w x2).bind fun z3 =>
  (gfR 5 1 w this).bind fun q4 =>
  (gfR 5 0 w this).bind fun q5 =>
  (chk 4 w q4).bind fun u6 =>
  (m_X5_push n w q4 q5).bind fun z7 =>
  (chk 5 z7 this).bind fun u8 =>
  (m_X6_place n z7 this a1 a2 a3).bind fun z9 =>
  some (z9.1, z9.2)
def m_X6_move (n : Nat) (w : Wd) (this : Nat) (a1 : Int32) (a2 : Int32) (a3 : Int32) : Option (Int32 × Wd) :=
  (chk 5 w this).bind fun u1 =>
  (m_X6_refusalOfPlace n w this a1 a2 a3 1).bind fun x2 =>
  (m_X6_throwIf n w x2).bind fun z3 =>
  (gfR 5 1 w this).bind fun q4 =>
  (gfR 5 0 w this).bind fun q5 =>
  (chk 4 w q4).bind fun u6 =>
  (m_X5_push n w q4 q5).bind fun z7 =>
  (chk 5 z7 this).bind fun u8 =>
  (m_X6_place n z7 this a1 a2 a3).bind fun z9 =>
  some (z9.1, z9.2)
def m_X6_refusalOfDrop (n : Nat) (w : Wd) (this : Nat) (a1 : Int32) : Option Int32 :=
  if (m_X6_isId a1) = 0 then
    some 1
  else
    (gfR 5 0 w this).bind fun q1 =>
    (gfR 3 0 w q1).bind fun q2 =>
    (agI 1 w q2 a1).bind fun x3 =>
    if x3 = 0 then
      some 3
    else
      some 0
def m_X6_takeOut (n : Nat) (w : Wd) (this : Nat) (a1 : Int32) : Option (Int32 × Wd) :=
  (gfR 5 0 w this).bind fun q1 =>
  (chk 3 w q1).bind fun u2 =>
  (m_X4_clear n w q1 a1).bind fun z3 =>
  (chk 5 z3 this).bind fun u4 =>
  (m_X6_settle n z3 this).bind fun z5 =>
  some (z5.1, z5.2)
def m_X6_remove (n : Nat) (w : Wd) (this : Nat) (a1 : Int32) : Option (Int32 × Wd) :=
  (chk 5 w this).bind fun u1 =>
  (m_X6_refusalOfDrop n w this a1).bind fun x2 =>
  (m_X6_throwIf n w x2).bind fun z3 =>
  (gfR 5 1 w this).bind fun q4 =>
  (gfR 5 0 w this).bind fun q5 =>
  (chk 4 w q4).bind fun u6 =>
  (m_X5_push n w q4 q5).bind fun z7 =>
  (chk 5 z7 this).bind fun u8 =>
  (m_X6_takeOut n z7 this a1).bind fun z9 =>
  some (z9.1, z9.2)
def m_X6_refusalOfSpeed (n : Nat) (w : Wd) (this : Nat) (a1 : Int32) (a2 : Int32) (a3 : Int32) : Option Int32 :=
  if (m_X6_isId a1) = 0 then
    some 1
  else
    if (m_X6_inside a2 (-9) 9) = 0 then
      some 2
    else
      if (m_X6_inside a3 (-9) 9) = 0 then
        some 2
      else
        (gfR 5 0 w this).bind fun q1 =>
        (gfR 3 0 w q1).bind fun q2 =>
        (agI 1 w q2 a1).bind fun x3 =>
        if x3 = 0 then
          some 3
        else
          some 0
def m_X6_setSpeed (n : Nat) (w : Wd) (this : Nat) (a1 : Int32) (a2 : Int32) (a3 : Int32) : Option Wd :=
  (gfR 5 0 w this).bind fun q1 =>
  (gfR 3 3 w q1).bind fun q2 =>
  (asI 0 w q2 a1 a2).bind fun w3 =>
  (gfR 5 0 w3 this).bind fun q4 =>
  (gfR 3 4 w3 q4).bind fun q5 =>
  (asI 0 w3 q5 a1 a3).bind fun w6 =>
  some w6
def m_X6_setVelocity (n : Nat) (w : Wd) (this : Nat) (a1 : Int32) (a2 : Int32) (a3 : Int32) : Option (Int32 × Wd) :=
  (chk 5 w this).bind fun u1 =>
  (m_X6_refusalOfSpeed n w this a1 a2 a3).bind fun x2 =>
  (m_X6_throwIf n w x2).bind fun z3 =>
  (gfR 5 1 w this).bind fun q4 =>
  (gfR 5 0 w this).bind fun q5 =>
  (chk 4 w q4).bind fun u6 =>
  (m_X5_push n w q4 q5).bind fun z7 =>
  (gfR 5 0 z7 this).bind fun q8 =>
  (gfR 3 3 z7 q8).bind fun q9 =>
  (agI 0 z7 q9 a1).bind fun x10 =>
  (gfR 5 0 z7 this).bind fun q11 =>
  (gfR 3 4 z7 q11).bind fun q12 =>
  (agI 0 z7 q12 a1).bind fun x13 =>
  (chk 5 z7 this).bind fun u14 =>
  (m_X6_setSpeed n z7 this a1 a2 a3).bind fun z15 =>
  some (((10 * (abI x10)) + (abI x13)), z15)
def m_X6_letPass_p4 (n : Nat) : Nat → Wd → Nat → Int32 → Int32 → Int32 → Option (Int32 × Wd)
  | 0, _, _, _, _, _ => none
  | t + 1, w, a0, a1, a2, a3 =>
    if a1 ≤ a3 then
      some (a2, w)
    else
      (gfR 5 0 w a0).bind fun q1 =>
      (chk 3 w q1).bind fun u2 =>
      (m_X4_step n w q1).bind fun z3 =>
      (chk 5 z3 a0).bind fun u4 =>
      (m_X6_settle n z3 a0).bind fun z5 =>
      m_X6_letPass_p4 n t z5.2 a0 a1 (a2 + z5.1) (a3 + 1)
def m_X6_letPass (n : Nat) (w : Wd) (this : Nat) (a1 : Int32) : Option (Int32 × Wd) :=
  m_X6_letPass_p4 n n w this a1 0 0
def m_X6_refusalOfTicks (a0 : Int32) : Int32 :=
  if (m_X6_inside a0 1 50) = 0 then
    2
  else
    0
def m_X6_tick (n : Nat) (w : Wd) (this : Nat) (a1 : Int32) : Option (Int32 × Wd) :=
  (m_X6_throwIf n w (m_X6_refusalOfTicks a1)).bind fun z1 =>
  (gfR 5 1 w this).bind fun q2 =>
  (gfR 5 0 w this).bind fun q3 =>
  (chk 4 w q2).bind fun u4 =>
  (m_X5_push n w q2 q3).bind fun z5 =>
  (chk 5 z5 this).bind fun u6 =>
  (m_X6_letPass n z5 this a1).bind fun z7 =>
  some (z7.1, z7.2)
def m_X6_nextRandom (a0 : Int64) : Int64 :=
  (jrmL ((1103515245 * a0) + 12345) 2147483648)
def m_X6_placeIn (n : Nat) (w : Wd) (a0 : Int64) (a2 : Int32) : Option Int32 :=
  if a2 ≤ 0 then
    some 0
  else
    (remL (a0 / 65536) (Int32.toInt64 a2)).bind fun x1 =>
    some (Int64.toInt32 x1)
def m_X6_refusalOfScatter (a0 : Int32) (a1 : Int32) (a2 : Int32) (a3 : Int32) : Int32 :=
  if (m_X6_isId a0) = 0 then
    1
  else
    if (m_X6_inside a1 1 (24 - a0)) = 0 then
      2
    else
      if (m_X6_inside a2 1 64) = 0 then
        2
      else
        if (m_X6_inside a3 0 999999) = 0 then
          2
        else
          0
def m_X6_scatter_p83 (n : Nat) (w : Wd) (a0 : Nat) : Option (Int32 × Wd) :=
  (chk 5 w a0).bind fun u1 =>
  (m_X6_settle n w a0).bind fun z2 =>
  (gfR 5 0 z2.2 a0).bind fun q3 =>
  (chk 3 z2.2 q3).bind fun u4 =>
  (m_X4_count n z2.2 q3).bind fun x5 =>
  some (x5, z2.2)
def m_X6_scatter_p30 (n : Nat) : Nat → Wd → Nat → Int32 → Int32 → Int32 → Int64 → Int32 → Option (Int32 × Wd)
  | 0, _, _, _, _, _, _, _ => none
  | t + 1, w, a0, a1, a2, a3, a5, a7 =>
    if (a1 + a2) ≤ a7 then
      m_X6_scatter_p83 n w a0
    else
      (m_X6_placeIn n w (m_X6_nextRandom a5) a3).bind fun x1 =>
      (gfR 5 0 w a0).bind fun q2 =>
      (m_X6_placeIn n w (m_X6_nextRandom (m_X6_nextRandom a5)) a3).bind fun x3 =>
      (chk 3 w q2).bind fun u4 =>
      (m_X4_put n w q2 a7 x1 x3).bind fun z5 =>
      m_X6_scatter_p30 n t z5 a0 a1 a2 a3 (m_X6_nextRandom (m_X6_nextRandom a5)) (a7 + 1)
def m_X6_scatter (n : Nat) (w : Wd) (this : Nat) (a1 : Int32) (a2 : Int32) (a3 : Int32) (a4 : Int32) : Option (Int32 × Wd) :=
  (m_X6_throwIf n w (m_X6_refusalOfScatter a1 a2 a3 a4)).bind fun z1 =>
  (gfR 5 1 w this).bind fun q2 =>
  (gfR 5 0 w this).bind fun q3 =>
  (chk 4 w q2).bind fun u4 =>
  (m_X5_push n w q2 q3).bind fun z5 =>
  m_X6_scatter_p30 n n z5 this a1 a2 a3 (Int32.toInt64 a4) a1
def m_X6_refusalOfValue (a0 : Int32) (a1 : Int32) (a2 : Int32) (a3 : Int32) : Int32 :=
  if (m_X6_inside a0 0 (a1 - 1)) = 0 then
    1
  else
    if (m_X6_inside a2 0 a3) = 0 then
      2
    else
      0
def m_X6_point (n : Nat) (w : Wd) (this : Nat) (a1 : Int32) (a2 : Int32) : Option Int32 :=
  (m_X6_throwIf n w (m_X6_refusalOfValue a1 24 a2 5)).bind fun z1 =>
  if a2 = 0 then
    (gfR 5 0 w this).bind fun q3 =>
    (gfR 3 0 w q3).bind fun q4 =>
    (agI 1 w q4 a1).bind fun x5 =>
    if x5 = 0 then
      some 0
    else
      some 1
  else if a2 = 1 then
    (gfR 5 0 w this).bind fun q7 =>
    (gfR 3 1 w q7).bind fun q8 =>
    (agI 0 w q8 a1).bind fun x9 =>
    some x9
  else if a2 = 2 then
    (gfR 5 0 w this).bind fun q11 =>
    (gfR 3 2 w q11).bind fun q12 =>
    (agI 0 w q12 a1).bind fun x13 =>
    some x13
  else if a2 = 3 then
    (gfR 5 0 w this).bind fun q15 =>
    (gfR 3 3 w q15).bind fun q16 =>
    (agI 0 w q16 a1).bind fun x17 =>
    some x17
  else if a2 = 4 then
    (gfR 5 0 w this).bind fun q19 =>
    (gfR 3 4 w q19).bind fun q20 =>
    (agI 0 w q20 a1).bind fun x21 =>
    some x21
  else 
    (m_X6_heightOf n w a1).bind fun x22 =>
    some x22
def m_X6_level (n : Nat) (w : Wd) (this : Nat) (a1 : Int32) (a2 : Int32) : Option Int32 :=
  (m_X6_throwIf n w (m_X6_refusalOfValue a1 5 a2 4)).bind fun z1 =>
  (gfR 5 3 w this).bind fun q2 =>
  (gfR 0 0 w q2).bind fun q3 =>
  (agQ 3 w q3 a1).bind fun q4 =>
  if a2 = 0 then
    (gfI 1 1 w q4).bind fun x6 =>
    some x6
  else if a2 = 1 then
    (gfI 1 3 w q4).bind fun x8 =>
    some x8
  else if a2 = 2 then
    (chk 1 w q4).bind fun u10 =>
    (m_X1_greatestDepth n w q4).bind fun x11 =>
    some x11
  else if a2 = 3 then
    (chk 1 w q4).bind fun u13 =>
    (m_X1_positionChildren n w q4).bind fun x14 =>
    some x14
  else 
    (chk 1 w q4).bind fun u15 =>
    (m_X1_differentPositions n w q4).bind fun x16 =>
    some x16
def m_X6_refusalOfNode (n : Nat) (w : Wd) (this : Nat) (a1 : Int32) (a2 : Int32) (a3 : Int32) (a4 : Int32) : Option Int32 :=
  if (m_X6_inside a1 0 4) = 0 then
    some 1
  else
    (gfR 5 3 w this).bind fun q1 =>
    (gfR 0 0 w q1).bind fun q2 =>
    (agQ 3 w q2 a1).bind fun q3 =>
    (gfI 1 3 w q3).bind fun x4 =>
    some (m_X6_refusalOfValue a2 x4 a3 a4)
def m_X6_node (n : Nat) (w : Wd) (this : Nat) (a1 : Int32) (a2 : Int32) (a3 : Int32) : Option Int32 :=
  (chk 5 w this).bind fun u1 =>
  (m_X6_refusalOfNode n w this a1 a2 a3 5).bind fun x2 =>
  (m_X6_throwIf n w x2).bind fun z3 =>
  (gfR 5 3 w this).bind fun q4 =>
  (gfR 0 0 w q4).bind fun q5 =>
  (agQ 3 w q5 a1).bind fun q6 =>
  (gfR 1 2 w q6).bind fun q7 =>
  (agI 0 w q7 a2).bind fun x8 =>
  if a3 = 0 then
    some (m_X3_xOf (m_X3_corner x8))
  else if a3 = 1 then
    some (m_X3_yOf (m_X3_corner x8))
  else if a3 = 2 then
    some (m_X3_size x8)
  else if a3 = 3 then
    (chk 1 w q6).bind fun u13 =>
    (m_X1_depthOf n w q6 a2).bind fun x14 =>
    some x14
  else if a3 = 4 then
    (chk 1 w q6).bind fun u16 =>
    (m_X1_pointsIn n w q6 x8).bind fun x17 =>
    some x17
  else 
    (chk 1 w q6).bind fun u18 =>
    (m_X1_quadrantsIn n w q6 x8).bind fun x19 =>
    some x19
def m_X6_child (n : Nat) (w : Wd) (this : Nat) (a1 : Int32) (a2 : Int32) (a3 : Int32) : Option Int32 :=
  (chk 5 w this).bind fun u1 =>
  (m_X6_refusalOfNode n w this a1 a2 a3 3).bind fun x2 =>
  (m_X6_throwIf n w x2).bind fun z3 =>
  (gfR 5 3 w this).bind fun q4 =>
  (gfR 0 0 w q4).bind fun q5 =>
  (agQ 3 w q5 a1).bind fun q6 =>
  (chk 1 w q6).bind fun u7 =>
  (m_X1_childOf n w q6 a2 a3).bind fun x8 =>
  some x8
def m_X6_search (n : Nat) (w : Wd) (this : Nat) (a1 : Int32) (a2 : Int32) (a3 : Int32) (a4 : Int32) : Option Int32 :=
  if (m_X6_isPosition a1 a2) = 0 then
    (m_X6_throwIf n w 2).bind fun z1 =>
    (gfR 5 3 w this).bind fun q2 =>
    (chk 0 w q2).bind fun u3 =>
    (m_X0_find n w q2 a1 a2 a3).bind fun x4 =>
    if a4 = 0 then
      some (x4 / 32)
    else if a4 = 1 then
      some (jrm x4 32)
    else 
      (gfR 5 3 w this).bind fun q7 =>
      (gfR 0 0 w q7).bind fun q8 =>
      (agQ 3 w q8 0).bind fun q9 =>
      (gfR 1 2 w q9).bind fun q10 =>
      (agI 0 w q10 (jrm x4 32)).bind fun x11 =>
      some (m_X3_size x11)
  else
    if (m_X6_inside a4 0 2) = 0 then
      (m_X6_throwIf n w 2).bind fun z12 =>
      (gfR 5 3 w this).bind fun q13 =>
      (chk 0 w q13).bind fun u14 =>
      (m_X0_find n w q13 a1 a2 a3).bind fun x15 =>
      if a4 = 0 then
        some (x15 / 32)
      else if a4 = 1 then
        some (jrm x15 32)
      else 
        (gfR 5 3 w this).bind fun q18 =>
        (gfR 0 0 w q18).bind fun q19 =>
        (agQ 3 w q19 0).bind fun q20 =>
        (gfR 1 2 w q20).bind fun q21 =>
        (agI 0 w q21 (jrm x15 32)).bind fun x22 =>
        some (m_X3_size x22)
    else
      (m_X6_throwIf n w 0).bind fun z23 =>
      (gfR 5 3 w this).bind fun q24 =>
      (chk 0 w q24).bind fun u25 =>
      (m_X0_find n w q24 a1 a2 a3).bind fun x26 =>
      if a4 = 0 then
        some (x26 / 32)
      else if a4 = 1 then
        some (jrm x26 32)
      else 
        (gfR 5 3 w this).bind fun q29 =>
        (gfR 0 0 w q29).bind fun q30 =>
        (agQ 3 w q30 0).bind fun q31 =>
        (gfR 1 2 w q31).bind fun q32 =>
        (agI 0 w q32 (jrm x26 32)).bind fun x33 =>
        some (m_X3_size x33)
def m_X6_worst_p4 (n : Nat) : Nat → Wd → Nat → Int32 → Int32 → Int32 → Option Int32
  | 0, _, _, _, _, _ => none
  | t + 1, w, a0, a1, a2, a3 =>
    if 24 ≤ a3 then
      some a2
    else
      (gfR 5 0 w a0).bind fun q1 =>
      (gfR 3 0 w q1).bind fun q2 =>
      (agI 1 w q2 a3).bind fun x3 =>
      if x3 = 0 then
        m_X6_worst_p4 n t w a0 a1 a2 (a3 + 1)
      else
        (gfR 5 3 w a0).bind fun q4 =>
        (gfR 5 0 w a0).bind fun q5 =>
        (gfR 3 1 w q5).bind fun q6 =>
        (agI 0 w q6 a3).bind fun x7 =>
        (gfR 5 0 w a0).bind fun q8 =>
        (gfR 3 2 w q8).bind fun q9 =>
        (agI 0 w q9 a3).bind fun x10 =>
        (chk 0 w q4).bind fun u11 =>
        (m_X0_find n w q4 x7 x10 a1).bind fun x12 =>
        m_X6_worst_p4 n t w a0 a1 (mxI a2 (x12 / 32)) (a3 + 1)
def m_X6_worst (n : Nat) (w : Wd) (this : Nat) (a1 : Int32) : Option Int32 :=
  m_X6_worst_p4 n n w this a1 0 0
def m_X6_wouldTouch (n : Nat) (w : Wd) (this : Nat) (a1 : Int32) (a2 : Int32) (a3 : Int32) : Option (Int32 × Wd) :=
  (chk 5 w this).bind fun u1 =>
  (m_X6_refusalOfPlace n w this a1 a2 a3 1).bind fun x2 =>
  (m_X6_throwIf n w x2).bind fun z3 =>
  (gfR 5 0 w this).bind fun q4 =>
  (gfR 3 1 w q4).bind fun q5 =>
  (agI 0 w q5 a1).bind fun x6 =>
  (gfR 5 0 w this).bind fun q7 =>
  (gfR 3 2 w q7).bind fun q8 =>
  (agI 0 w q8 a1).bind fun x9 =>
  (gfR 5 0 w this).bind fun q10 =>
  (chk 3 w q10).bind fun u11 =>
  (m_X4_put n w q10 a1 a2 a3).bind fun z12 =>
  (gfR 5 4 z12 this).bind fun q13 =>
  (gfR 5 0 z12 this).bind fun q14 =>
  (chk 0 z12 q13).bind fun u15 =>
  (m_X0_plant n z12 q13 q14).bind fun z16 =>
  (gfR 5 0 z16 this).bind fun q17 =>
  (chk 3 z16 q17).bind fun u18 =>
  (m_X4_put n z16 q17 a1 x6 x9).bind fun z19 =>
  (gfR 5 3 z19 this).bind fun q20 =>
  (gfR 5 4 z19 this).bind fun q21 =>
  (chk 0 z19 q20).bind fun u22 =>
  (m_X0_differences n z19 q20 q21).bind fun x23 =>
  some (x23, z19)
def m_X6_refusalOfOpen (a0 : Int32) (a1 : Int32) (a2 : Int32) : Int32 :=
  if (m_X6_inside a0 0 3) = 0 then
    1
  else
    if (m_X6_isPosition a1 a2) = 0 then
      2
    else
      0
def m_X6_open (n : Nat) (w : Wd) (this : Nat) (a1 : Int32) (a2 : Int32) (a3 : Int32) : Option (Int32 × Wd) :=
  (m_X6_throwIf n w (m_X6_refusalOfOpen a1 a2 a3)).bind fun z1 =>
  (gfR 5 1 w this).bind fun q2 =>
  (gfR 5 0 w this).bind fun q3 =>
  (chk 4 w q2).bind fun u4 =>
  (m_X5_push n w q2 q3).bind fun z5 =>
  (gfR 5 0 z5 this).bind fun q6 =>
  (gfR 3 5 z5 q6).bind fun q7 =>
  (asI 0 z5 q7 a1 a2).bind fun w8 =>
  (gfR 5 0 w8 this).bind fun q9 =>
  (gfR 3 6 w8 q9).bind fun q10 =>
  (asI 0 w8 q10 a1 a3).bind fun w11 =>
  (gfR 5 0 w11 this).bind fun q12 =>
  (gfR 3 7 w11 q12).bind fun q13 =>
  (asI 0 w11 q13 a1 (-1)).bind fun w14 =>
  (gfR 5 0 w14 this).bind fun q15 =>
  (chk 3 w14 q15).bind fun u16 =>
  (m_X4_count n w14 q15).bind fun x17 =>
  some (x17, w14)
def m_X6_next (n : Nat) (w : Wd) (this : Nat) (a1 : Int32) : Option (Int32 × Wd) :=
  if (m_X6_inside a1 0 3) = 0 then
    (m_X6_throwIf n w 1).bind fun z1 =>
    (gfR 5 1 w this).bind fun q2 =>
    (gfR 5 0 w this).bind fun q3 =>
    (chk 4 w q2).bind fun u4 =>
    (m_X5_push n w q2 q3).bind fun z5 =>
    (gfR 5 0 z5 this).bind fun q6 =>
    (gfR 5 0 z5 this).bind fun q7 =>
    (gfR 3 7 z5 q7).bind fun q8 =>
    (agI 0 z5 q8 a1).bind fun x9 =>
    (gfR 5 0 z5 this).bind fun q10 =>
    (gfR 3 5 z5 q10).bind fun q11 =>
    (agI 0 z5 q11 a1).bind fun x12 =>
    (gfR 5 0 z5 this).bind fun q13 =>
    (gfR 3 6 z5 q13).bind fun q14 =>
    (agI 0 z5 q14 a1).bind fun x15 =>
    (chk 3 z5 q6).bind fun u16 =>
    (m_X4_pairAfter n z5 q6 x9 x12 x15).bind fun x17 =>
    if x17 = (-1) then
      some ((-1), z5)
    else
      (gfR 5 0 z5 this).bind fun q18 =>
      (gfR 3 7 z5 q18).bind fun q19 =>
      (asI 0 z5 q19 a1 x17).bind fun w20 =>
      some ((jrm x17 32), w20)
  else
    (m_X6_throwIf n w 0).bind fun z21 =>
    (gfR 5 1 w this).bind fun q22 =>
    (gfR 5 0 w this).bind fun q23 =>
    (chk 4 w q22).bind fun u24 =>
    (m_X5_push n w q22 q23).bind fun z25 =>
    (gfR 5 0 z25 this).bind fun q26 =>
    (gfR 5 0 z25 this).bind fun q27 =>
    (gfR 3 7 z25 q27).bind fun q28 =>
    (agI 0 z25 q28 a1).bind fun x29 =>
    (gfR 5 0 z25 this).bind fun q30 =>
    (gfR 3 5 z25 q30).bind fun q31 =>
    (agI 0 z25 q31 a1).bind fun x32 =>
    (gfR 5 0 z25 this).bind fun q33 =>
    (gfR 3 6 z25 q33).bind fun q34 =>
    (agI 0 z25 q34 a1).bind fun x35 =>
    (chk 3 z25 q26).bind fun u36 =>
    (m_X4_pairAfter n z25 q26 x29 x32 x35).bind fun x37 =>
    if x37 = (-1) then
      some ((-1), z25)
    else
      (gfR 5 0 z25 this).bind fun q38 =>
      (gfR 3 7 z25 q38).bind fun q39 =>
      (asI 0 z25 q39 a1 x37).bind fun w40 =>
      some ((jrm x37 32), w40)
def m_X6_cursor (n : Nat) (w : Wd) (this : Nat) (a1 : Int32) (a2 : Int32) : Option Int32 :=
  (m_X6_throwIf n w (m_X6_refusalOfValue a1 4 a2 5)).bind fun z1 =>
  (gfR 5 0 w this).bind fun q2 =>
  (gfR 3 5 w q2).bind fun q3 =>
  (agI 0 w q3 a1).bind fun x4 =>
  (gfR 5 0 w this).bind fun q5 =>
  (gfR 3 6 w q5).bind fun q6 =>
  (agI 0 w q6 a1).bind fun x7 =>
  (gfR 5 0 w this).bind fun q8 =>
  (gfR 3 7 w q8).bind fun q9 =>
  (agI 0 w q9 a1).bind fun x10 =>
  if a2 = 0 then
    some x4
  else if a2 = 1 then
    some x7
  else if a2 = 2 then
    if x10 = (-1) then
      some (-1)
    else
      some (x10 / 32)
  else if a2 = 3 then
    if x10 = (-1) then
      some (-1)
    else
      some (jrm x10 32)
  else if a2 = 4 then
    (gfR 5 0 w this).bind fun q16 =>
    (chk 3 w q16).bind fun u17 =>
    (m_X4_pairsAfter n w q16 x10 x4 x7).bind fun x18 =>
    some x18
  else 
    if x10 = (-1) then
      some 0
    else
      (gfR 5 3 w this).bind fun q19 =>
      (gfR 0 0 w q19).bind fun q20 =>
      (agQ 3 w q20 0).bind fun q21 =>
      (chk 1 w q21).bind fun u22 =>
      (m_X1_nodesWithin n w q21 (x10 / 32) x4 x7).bind fun x23 =>
      some x23
def m_X6_nearest_p48 (n : Nat) : Nat → Wd → Nat → Int32 → Int32 → Int32 → Int32 → Int32 → Option Int32
  | 0, _, _, _, _, _, _, _ => none
  | t + 1, w, a0, a1, a2, a3, a4, a5 =>
    if a3 ≤ a5 then
      some (jrm a4 32)
    else
      (gfR 5 0 w a0).bind fun q1 =>
      (chk 3 w q1).bind fun u2 =>
      (m_X4_pairAfter n w q1 a4 a1 a2).bind fun x3 =>
      m_X6_nearest_p48 n t w a0 a1 a2 a3 x3 (a5 + 1)
def m_X6_nearest (n : Nat) (w : Wd) (this : Nat) (a1 : Int32) (a2 : Int32) (a3 : Int32) : Option Int32 :=
  if (m_X6_isPosition a1 a2) = 0 then
    (m_X6_throwIf n w 2).bind fun z1 =>
    (gfR 5 0 w this).bind fun q2 =>
    (chk 3 w q2).bind fun u3 =>
    (m_X4_count n w q2).bind fun x4 =>
    if a3 < x4 then
      (gfR 5 0 w this).bind fun q5 =>
      (chk 3 w q5).bind fun u6 =>
      (m_X4_pairAfter n w q5 (-1) a1 a2).bind fun x7 =>
      m_X6_nearest_p48 n n w this a1 a2 a3 x7 0
    else
      some (-1)
  else
    if a3 < 0 then
      (m_X6_throwIf n w 2).bind fun z8 =>
      (gfR 5 0 w this).bind fun q9 =>
      (chk 3 w q9).bind fun u10 =>
      (m_X4_count n w q9).bind fun x11 =>
      if a3 < x11 then
        (gfR 5 0 w this).bind fun q12 =>
        (chk 3 w q12).bind fun u13 =>
        (m_X4_pairAfter n w q12 (-1) a1 a2).bind fun x14 =>
        m_X6_nearest_p48 n n w this a1 a2 a3 x14 0
      else
        some (-1)
    else
      (m_X6_throwIf n w 0).bind fun z15 =>
      (gfR 5 0 w this).bind fun q16 =>
      (chk 3 w q16).bind fun u17 =>
      (m_X4_count n w q16).bind fun x18 =>
      if a3 < x18 then
        (gfR 5 0 w this).bind fun q19 =>
        (chk 3 w q19).bind fun u20 =>
        (m_X4_pairAfter n w q19 (-1) a1 a2).bind fun x21 =>
        m_X6_nearest_p48 n n w this a1 a2 a3 x21 0
      else
        some (-1)
def m_X6_within_p31 (n : Nat) : Nat → Wd → Nat → Int32 → Int32 → Int32 → Int32 → Int32 → Int32 → Option Int32
  | 0, _, _, _, _, _, _, _, _ => none
  | t + 1, w, a0, a1, a2, a3, a4, a5, a6 =>
    if 24 ≤ a6 then
      some a5
    else
      (gfR 5 0 w a0).bind fun q1 =>
      (gfR 3 0 w q1).bind fun q2 =>
      (agI 1 w q2 a6).bind fun x3 =>
      if x3 = 0 then
        m_X6_within_p31 n t w a0 a1 a2 a3 a4 a5 (a6 + 1)
      else
        (gfR 5 0 w a0).bind fun q4 =>
        (gfR 3 1 w q4).bind fun q5 =>
        (agI 0 w q5 a6).bind fun x6 =>
        if (m_X6_inside x6 a1 a3) = 0 then
          m_X6_within_p31 n t w a0 a1 a2 a3 a4 a5 (a6 + 1)
        else
          (gfR 5 0 w a0).bind fun q7 =>
          (gfR 3 2 w q7).bind fun q8 =>
          (agI 0 w q8 a6).bind fun x9 =>
          if (m_X6_inside x9 a2 a4) = 0 then
            m_X6_within_p31 n t w a0 a1 a2 a3 a4 a5 (a6 + 1)
          else
            m_X6_within_p31 n t w a0 a1 a2 a3 a4 (a5 + 1) (a6 + 1)
def m_X6_within (n : Nat) (w : Wd) (this : Nat) (a1 : Int32) (a2 : Int32) (a3 : Int32) (a4 : Int32) : Option Int32 :=
  if (m_X6_isPosition a1 a2) = 0 then
    (m_X6_throwIf n w 2).bind fun z1 =>
    m_X6_within_p31 n n w this a1 a2 a3 a4 0 0
  else
    if (m_X6_isPosition a3 a4) = 0 then
      (m_X6_throwIf n w 2).bind fun z2 =>
      m_X6_within_p31 n n w this a1 a2 a3 a4 0 0
    else
      (m_X6_throwIf n w 0).bind fun z3 =>
      m_X6_within_p31 n n w this a1 a2 a3 a4 0 0
def m_X6_closest (n : Nat) (w : Wd) (this : Nat) (a1 : Int32) : Option Int32 :=
  if (m_X6_inside a1 0 2) = 0 then
    (m_X6_throwIf n w 2).bind fun z1 =>
    (gfR 5 0 w this).bind fun q2 =>
    (chk 3 w q2).bind fun u3 =>
    (m_X4_closestCouple n w q2).bind fun x4 =>
    if x4 = (-1) then
      some (-1)
    else
      if a1 = 0 then
        some (x4 / 1024)
      else if a1 = 1 then
        some (jrm (x4 / 32) 32)
      else 
        some (jrm x4 32)
  else
    (m_X6_throwIf n w 0).bind fun z7 =>
    (gfR 5 0 w this).bind fun q8 =>
    (chk 3 w q8).bind fun u9 =>
    (m_X4_closestCouple n w q8).bind fun x10 =>
    if x10 = (-1) then
      some (-1)
    else
      if a1 = 0 then
        some (x10 / 1024)
      else if a1 = 1 then
        some (jrm (x10 / 32) 32)
      else 
        some (jrm x10 32)
def m_X6_refusalOfByte (n : Nat) (w : Wd) (this : Nat) (a1 : Int32) : Option Int32 :=
  if (m_X6_inside a1 0 127) = 0 then
    some 2
  else
    (gfR 5 2 w this).bind fun q1 =>
    (gfI 2 1 w q1).bind fun x2 =>
    if 120 ≤ x2 then
      some 3
    else
      some 0
def m_X6_type (n : Nat) (w : Wd) (this : Nat) (a1 : Int32) : Option (Int32 × Wd) :=
  (chk 5 w this).bind fun u1 =>
  (m_X6_refusalOfByte n w this a1).bind fun x2 =>
  (m_X6_throwIf n w x2).bind fun z3 =>
  (gfR 5 2 w this).bind fun q4 =>
  (chk 2 w q4).bind fun u5 =>
  (m_X2_append n w q4 a1).bind fun z6 =>
  (gfR 5 2 z6 this).bind fun q7 =>
  (gfI 2 1 z6 q7).bind fun x8 =>
  some (x8, z6)
def m_X6_time (n : Nat) (w : Wd) (this : Nat) : Option Int32 :=
  (gfR 5 0 w this).bind fun q1 =>
  (gfI 3 8 w q1).bind fun x2 =>
  some x2
def m_X6_undo (n : Nat) (w : Wd) (this : Nat) : Option (Int32 × Wd) :=
  (gfR 5 1 w this).bind fun q1 =>
  (gfI 4 2 w q1).bind fun x2 =>
  if x2 ≤ 0 then
    (m_X6_throwIf n w 3).bind fun z3 =>
    (gfR 5 1 w this).bind fun q4 =>
    (gfR 5 0 w this).bind fun q5 =>
    (chk 4 w q4).bind fun u6 =>
    (m_X5_pop n w q4 q5).bind fun z7 =>
    (gfR 5 3 z7 this).bind fun q8 =>
    (gfR 5 0 z7 this).bind fun q9 =>
    (chk 0 z7 q8).bind fun u10 =>
    (m_X0_plant n z7 q8 q9).bind fun z11 =>
    (gfR 5 1 z11 this).bind fun q12 =>
    (gfI 4 2 z11 q12).bind fun x13 =>
    some (x13, z11)
  else
    (m_X6_throwIf n w 0).bind fun z14 =>
    (gfR 5 1 w this).bind fun q15 =>
    (gfR 5 0 w this).bind fun q16 =>
    (chk 4 w q15).bind fun u17 =>
    (m_X5_pop n w q15 q16).bind fun z18 =>
    (gfR 5 3 z18 this).bind fun q19 =>
    (gfR 5 0 z18 this).bind fun q20 =>
    (chk 0 z18 q19).bind fun u21 =>
    (m_X0_plant n z18 q19 q20).bind fun z22 =>
    (gfR 5 1 z22 this).bind fun q23 =>
    (gfI 4 2 z22 q23).bind fun x24 =>
    some (x24, z22)
