def m_X0_insert_p38 (n : Nat) (w : Wd) (a0 : Nat) (a1 : Int32) (a3 : Int32) : Option Wd :=
  (gfR 0 1 w a0).bind fun q1 =>
  (asI 0 w q1 a3 a1).bind fun w2 =>
  some w2
def m_X0_insert_p2 (n : Nat) : Nat → Wd → Nat → Int32 → Int32 → Option Wd
  | 0, _, _, _, _ => none
  | t + 1, w, a0, a1, a3 =>
    if a3 ≤ 0 then
      m_X0_insert_p38 n w a0 a1 a3
    else
      (gfR 0 1 w a0).bind fun q1 =>
      (agI 0 w q1 (a3 - 1)).bind fun x2 =>
      if x2 ≤ a1 then
        m_X0_insert_p38 n w a0 a1 a3
      else
        (gfR 0 1 w a0).bind fun q3 =>
        (gfR 0 1 w a0).bind fun q4 =>
        (agI 0 w q4 (a3 - 1)).bind fun x5 =>
        (asI 0 w q3 a3 x5).bind fun w6 =>
        m_X0_insert_p2 n t w6 a0 a1 (a3 + (-1))
def m_X0_insert (n : Nat) (w : Wd) (this : Nat) (a1 : Int32) (a2 : Int32) : Option Wd :=
  m_X0_insert_p2 n n w this a1 a2
def m_X3_code (a0 : Int32) (a1 : Int32) : Int32 :=
  nm1 (α := Int32) ((((a1 <<< (16 &&& 31 : Int32)) ||| a0) ||| (((a1 <<< (16 &&& 31 : Int32)) ||| a0) <<< (4 &&& 31 : Int32))) &&& 252645135) fun y1 =>
  nm1 (α := Int32) ((((y1 ||| (y1 <<< (2 &&& 31 : Int32))) &&& 858993459) ||| (((y1 ||| (y1 <<< (2 &&& 31 : Int32))) &&& 858993459) <<< (1 &&& 31 : Int32))) &&& 1431655765) fun y2 =>
  ((y2 ||| (y2 >>> (15 &&& 31 : Int32))) &&& 65535)
def m_X0_sortPoints_p4 (n : Nat) : Nat → Wd → Nat → Nat → Int32 → Int32 → Option (Int32 × Wd)
  | 0, _, _, _, _, _ => none
  | t + 1, w, a0, a1, a2, a3 =>
    if 24 ≤ a3 then
      some (a2, w)
    else
      (gfR 3 0 w a1).bind fun q1 =>
      (agI 1 w q1 a3).bind fun x2 =>
      if x2 = 0 then
        m_X0_sortPoints_p4 n t w a0 a1 a2 (a3 + 1)
      else
        (gfR 3 1 w a1).bind fun q3 =>
        (agI 0 w q3 a3).bind fun x4 =>
        (gfR 3 2 w a1).bind fun q5 =>
        (agI 0 w q5 a3).bind fun x6 =>
        (chk 0 w a0).bind fun u7 =>
        (m_X0_insert n w a0 (((m_X3_code x4 x6) * 32) + a3) a2).bind fun z8 =>
        m_X0_sortPoints_p4 n t z8 a0 a1 (a2 + 1) (a3 + 1)
def m_X0_sortPoints (n : Nat) (w : Wd) (this : Nat) (a1 : Nat) : Option (Int32 × Wd) :=
  m_X0_sortPoints_p4 n n w this a1 0 0
def m_X1_clear (n : Nat) (w : Wd) (this : Nat) : Option Wd :=
  (pfV 1 1 w this (.int 0)).bind fun w1 =>
  (pfV 1 3 w1 this (.int 1)).bind fun w2 =>
  some w2
def m_X1_beginsSquare (n : Nat) (w : Wd) (this : Nat) (a1 : Int32) (a2 : Int32) : Option Int32 :=
  if a1 = 0 then
    some 1
  else
    (gfR 1 0 w this).bind fun q1 =>
    (agI 0 w q1 (a1 - 1)).bind fun x2 =>
    (gfR 1 0 w this).bind fun q3 =>
    (agI 0 w q3 a1).bind fun x4 =>
    if (x2 >>> ((2 * a2) &&& 31 : Int32)) = (x4 >>> ((2 * a2) &&& 31 : Int32)) then
      some 0
    else
      some 1
def m_X1_branches_p30 (n : Nat) : Nat → Wd → Nat → Int32 → Int32 → Int32 → Int32 → Option Int32
  | 0, _, _, _, _, _, _ => none
  | t + 1, w, a0, a2, a3, a4, a5 =>
    (gfI 1 1 w a0).bind fun x1 =>
    if x1 ≤ a5 then
      some 0
    else
      (gfR 1 0 w a0).bind fun q2 =>
      (agI 0 w q2 a5).bind fun x3 =>
      if (x3 >>> ((2 * a2) &&& 31 : Int32)) = a3 then
        (gfR 1 0 w a0).bind fun q4 =>
        (agI 0 w q4 a5).bind fun x5 =>
        if (x5 >>> (((2 * a2) - 2) &&& 31 : Int32)) = a4 then
          m_X1_branches_p30 n t w a0 a2 a3 a4 (a5 + 1)
        else
          some 1
      else
        some 0
def m_X1_branches (n : Nat) (w : Wd) (this : Nat) (a1 : Int32) (a2 : Int32) : Option Int32 :=
  (gfR 1 0 w this).bind fun q1 =>
  (agI 0 w q1 a1).bind fun x2 =>
  (gfR 1 0 w this).bind fun q3 =>
  (agI 0 w q3 a1).bind fun x4 =>
  m_X1_branches_p30 n n w this a2 (x2 >>> ((2 * a2) &&& 31 : Int32)) (x4 >>> (((2 * a2) - 2) &&& 31 : Int32)) (a1 + 1)
def m_X1_keep (n : Nat) (w : Wd) (this : Nat) (a1 : Int32) : Option Wd :=
  (gfI 1 3 w this).bind fun x1 =>
  if 24 ≤ x1 then
    some w
  else
    (gfR 1 2 w this).bind fun q2 =>
    (gfI 1 3 w this).bind fun x3 =>
    (asI 0 w q2 x3 a1).bind fun w4 =>
    (gfI 1 3 w4 this).bind fun x5 =>
    (pfV 1 3 w4 this (.int (x5 + 1))).bind fun w6 =>
    some w6
def m_X3_around (a0 : Int32) (a1 : Int32) : Int32 :=
  (((((a0 >>> ((2 * a1) &&& 31 : Int32)) <<< ((2 * a1) &&& 31 : Int32)) * 8) + 6) - a1)
def m_X1_findNodes_p12 (n : Nat) (k2 : Wd → Nat → Int32 → Option Wd) : Nat → Wd → Nat → Int32 → Int32 → Option Wd
  | 0, _, _, _, _ => none
  | t + 1, w, a0, a1, a2 =>
    if a2 ≤ 0 then
      k2 w a0 (a1 + 1)
    else
      (chk 1 w a0).bind fun u1 =>
      (m_X1_beginsSquare n w a0 a1 a2).bind fun x2 =>
      if x2 = 0 then
        m_X1_findNodes_p12 n k2 t w a0 a1 (a2 + (-1))
      else
        (chk 1 w a0).bind fun u3 =>
        (m_X1_branches n w a0 a1 a2).bind fun x4 =>
        if x4 = 0 then
          m_X1_findNodes_p12 n k2 t w a0 a1 (a2 + (-1))
        else
          (gfR 1 0 w a0).bind fun q5 =>
          (agI 0 w q5 a1).bind fun x6 =>
          (chk 1 w a0).bind fun u7 =>
          (m_X1_keep n w a0 (m_X3_around x6 a2)).bind fun z8 =>
          m_X1_findNodes_p12 n k2 t z8 a0 a1 (a2 + (-1))
def m_X1_findNodes_p2 (n : Nat) : Nat → Wd → Nat → Int32 → Option Wd
  | 0, _, _, _ => none
  | t + 1, w, a0, a1 =>
    (gfI 1 1 w a0).bind fun x1 =>
    if x1 ≤ a1 then
      some w
    else
      m_X1_findNodes_p12 n (fun w b0 b1 => m_X1_findNodes_p2 n t w b0 b1) n w a0 a1 5
def m_X1_findNodes (n : Nat) (w : Wd) (this : Nat) : Option Wd :=
  m_X1_findNodes_p2 n n w this 0
def m_X1_take (n : Nat) (w : Wd) (this : Nat) (a1 : Int32) : Option Wd :=
  (gfI 1 1 w this).bind fun x1 =>
  if 24 ≤ x1 then
    some w
  else
    (gfR 1 0 w this).bind fun q2 =>
    (gfI 1 1 w this).bind fun x3 =>
    (asI 0 w q2 x3 a1).bind fun w4 =>
    (gfI 1 1 w4 this).bind fun x5 =>
    (pfV 1 1 w4 this (.int (x5 + 1))).bind fun w6 =>
    some w6
def m_X6_heightOf_p6 (n : Nat) : Nat → Wd → Int32 → Int32 → Option Int32
  | 0, _, _, _ => none
  | t + 1, w, a1, a2 =>
    if 4 ≤ a1 then
      some a1
    else
      if (jrm a2 2) = 0 then
        m_X6_heightOf_p6 n t w (a1 + 1) (a2 / 2)
      else
        some a1
def m_X6_heightOf (n : Nat) (w : Wd) (a0 : Int32) : Option Int32 :=
  m_X6_heightOf_p6 n n w 0 (a0 + 1)
def m_X0_plant_p52 (n : Nat) (k30 : Wd → Nat → Int32 → Int32 → Option Wd) : Nat → Wd → Nat → Int32 → Int32 → Int32 → Int32 → Option Wd
  | 0, _, _, _, _, _, _ => none
  | t + 1, w, a0, a2, a3, a4, a5 =>
    if a4 < a5 then
      k30 w a0 a2 (a3 + 1)
    else
      (gfR 0 0 w a0).bind fun q1 =>
      (agQ 3 w q1 a5).bind fun q2 =>
      (gfR 0 1 w a0).bind fun q3 =>
      (agI 0 w q3 a3).bind fun x4 =>
      (chk 1 w q2).bind fun u5 =>
      (m_X1_take n w q2 (x4 / 32)).bind fun z6 =>
      m_X0_plant_p52 n k30 t z6 a0 a2 a3 a4 (a5 + 1)
def m_X0_plant_p92 (n : Nat) : Nat → Wd → Nat → Int32 → Option Wd
  | 0, _, _, _ => none
  | t + 1, w, a0, a3 =>
    if 5 ≤ a3 then
      some w
    else
      (gfR 0 0 w a0).bind fun q1 =>
      (agQ 3 w q1 a3).bind fun q2 =>
      (chk 1 w q2).bind fun u3 =>
      (m_X1_findNodes n w q2).bind fun z4 =>
      m_X0_plant_p92 n t z4 a0 (a3 + 1)
def m_X0_plant_p90 (n : Nat) (w : Wd) (a0 : Nat) : Option Wd :=
  m_X0_plant_p92 n n w a0 0
def m_X0_plant_p30 (n : Nat) : Nat → Wd → Nat → Int32 → Int32 → Option Wd
  | 0, _, _, _, _ => none
  | t + 1, w, a0, a2, a3 =>
    if a2 ≤ a3 then
      m_X0_plant_p90 n w a0
    else
      (gfR 0 1 w a0).bind fun q1 =>
      (agI 0 w q1 a3).bind fun x2 =>
      (m_X6_heightOf n w (jrm x2 32)).bind fun x3 =>
      m_X0_plant_p52 n (fun w b0 b2 b3 => m_X0_plant_p30 n t w b0 b2 b3) n w a0 a2 a3 x3 0
def m_X0_plant_p28 (n : Nat) (w : Wd) (a0 : Nat) (a2 : Int32) : Option Wd :=
  m_X0_plant_p30 n n w a0 a2 0
def m_X0_plant_p8 (n : Nat) : Nat → Wd → Nat → Int32 → Int32 → Option Wd
  | 0, _, _, _, _ => none
  | t + 1, w, a0, a2, a3 =>
    if 5 ≤ a3 then
      m_X0_plant_p28 n w a0 a2
    else
      (gfR 0 0 w a0).bind fun q1 =>
      (agQ 3 w q1 a3).bind fun q2 =>
      (chk 1 w q2).bind fun u3 =>
      (m_X1_clear n w q2).bind fun z4 =>
      m_X0_plant_p8 n t z4 a0 a2 (a3 + 1)
def m_X0_plant (n : Nat) (w : Wd) (this : Nat) (a1 : Nat) : Option Wd :=
  (chk 0 w this).bind fun u1 =>
  (m_X0_sortPoints n w this a1).bind fun z2 =>
  m_X0_plant_p8 n n z2.2 this z2.1 0
def m_X1_differences_p46 (n : Nat) (k7 : Wd → Nat → Nat → Int32 → Int32 → Int32 → Option Int32) (w : Wd) (a0 : Nat) (a1 : Nat) (a2 : Int32) (a3 : Int32) (a4 : Int32) : Option Int32 :=
  (gfI 1 3 w a1).bind fun x1 =>
  if x1 ≤ a3 then
    k7 w a0 a1 a2 a3 (a4 + 1)
  else
    (gfR 1 2 w a1).bind fun q2 =>
    (agI 0 w q2 a3).bind fun x3 =>
    (gfR 1 2 w a0).bind fun q4 =>
    (agI 0 w q4 a4).bind fun x5 =>
    if x3 = x5 then
      k7 w a0 a1 (a2 + 1) a3 (a4 + 1)
    else
      k7 w a0 a1 a2 a3 (a4 + 1)
def m_X1_differences_p16 (n : Nat) (k7 : Wd → Nat → Nat → Int32 → Int32 → Int32 → Option Int32) : Nat → Wd → Nat → Nat → Int32 → Int32 → Int32 → Option Int32
  | 0, _, _, _, _, _, _ => none
  | t + 1, w, a0, a1, a2, a3, a4 =>
    (gfI 1 3 w a1).bind fun x1 =>
    if x1 ≤ a3 then
      m_X1_differences_p46 n k7 w a0 a1 a2 a3 a4
    else
      (gfR 1 2 w a1).bind fun q2 =>
      (agI 0 w q2 a3).bind fun x3 =>
      (gfR 1 2 w a0).bind fun q4 =>
      (agI 0 w q4 a4).bind fun x5 =>
      if x5 ≤ x3 then
        m_X1_differences_p46 n k7 w a0 a1 a2 a3 a4
      else
        m_X1_differences_p16 n k7 t w a0 a1 a2 (a3 + 1) a4
def m_X1_differences_p79 (n : Nat) (w : Wd) (a0 : Nat) (a1 : Nat) (a2 : Int32) : Option Int32 :=
  (gfI 1 3 w a0).bind fun x1 =>
  (gfI 1 3 w a1).bind fun x2 =>
  some ((x1 + x2) - (2 * a2))
def m_X1_differences_p7 (n : Nat) : Nat → Wd → Nat → Nat → Int32 → Int32 → Int32 → Option Int32
  | 0, _, _, _, _, _, _ => none
  | t + 1, w, a0, a1, a2, a3, a4 =>
    (gfI 1 3 w a0).bind fun x1 =>
    if x1 ≤ a4 then
      m_X1_differences_p79 n w a0 a1 a2
    else
      m_X1_differences_p16 n (fun w b0 b1 b2 b3 b4 => m_X1_differences_p7 n t w b0 b1 b2 b3 b4) n w a0 a1 a2 a3 a4
def m_X1_differences (n : Nat) (w : Wd) (this : Nat) (a1 : Nat) : Option Int32 :=
  m_X1_differences_p7 n n w this a1 0 0 0
def m_X0_differences_p4 (n : Nat) : Nat → Wd → Nat → Nat → Int32 → Int32 → Option Int32
  | 0, _, _, _, _, _ => none
  | t + 1, w, a0, a1, a2, a3 =>
    if 5 ≤ a3 then
      some a2
    else
      (gfR 0 0 w a0).bind fun q1 =>
      (agQ 3 w q1 a3).bind fun q2 =>
      (gfR 0 0 w a1).bind fun q3 =>
      (agQ 3 w q3 a3).bind fun q4 =>
      (chk 1 w q2).bind fun u5 =>
      (m_X1_differences n w q2 q4).bind fun x6 =>
      m_X0_differences_p4 n t w a0 a1 (a2 + x6) (a3 + 1)
def m_X0_differences (n : Nat) (w : Wd) (this : Nat) (a1 : Nat) : Option Int32 :=
  m_X0_differences_p4 n n w this a1 0 0
def m_X0_greatestLevel_p4 (n : Nat) : Nat → Wd → Nat → Int32 → Int32 → Option Int32
  | 0, _, _, _, _ => none
  | t + 1, w, a0, a1, a2 =>
    if 5 ≤ a2 then
      some a1
    else
      (gfR 0 0 w a0).bind fun q1 =>
      (agQ 3 w q1 a2).bind fun q2 =>
      (gfI 1 1 w q2).bind fun x3 =>
      if x3 ≤ 0 then
        m_X0_greatestLevel_p4 n t w a0 a1 (a2 + 1)
      else
        m_X0_greatestLevel_p4 n t w a0 a2 (a2 + 1)
def m_X0_greatestLevel (n : Nat) (w : Wd) (this : Nat) : Option Int32 :=
  m_X0_greatestLevel_p4 n n w this 0 0
def m_X1_indexOf_p2 (n : Nat) : Nat → Wd → Nat → Int32 → Int32 → Option Int32
  | 0, _, _, _, _ => none
  | t + 1, w, a0, a1, a2 =>
    (gfI 1 3 w a0).bind fun x1 =>
    if (x1 - 1) ≤ a2 then
      some a2
    else
      (gfR 1 2 w a0).bind fun q2 =>
      (agI 0 w q2 a2).bind fun x3 =>
      if a1 ≤ x3 then
        some a2
      else
        m_X1_indexOf_p2 n t w a0 a1 (a2 + 1)
def m_X1_indexOf (n : Nat) (w : Wd) (this : Nat) (a1 : Int32) : Option Int32 :=
  m_X1_indexOf_p2 n n w this a1 0
def m_X3_corner (a0 : Int32) : Int32 :=
  (a0 / 8)
def m_X3_exponent (a0 : Int32) : Int32 :=
  (6 - (jrm a0 8))
def m_X3_holds (a0 : Int32) (a1 : Int32) : Int32 :=
  if ((a1 ^^^ (m_X3_corner a0)) >>> ((2 * (m_X3_exponent a0)) &&& 31 : Int32)) = 0 then
    1
  else
    0
def m_X1_greatestNodeAround_p4 (n : Nat) : Nat → Wd → Nat → Int32 → Int32 → Option Int32
  | 0, _, _, _, _ => none
  | t + 1, w, a0, a1, a3 =>
    (gfI 1 3 w a0).bind fun x1 =>
    if x1 ≤ a3 then
      some (-1)
    else
      (gfR 1 2 w a0).bind fun q2 =>
      (agI 0 w q2 a3).bind fun x3 =>
      if (m_X3_holds x3 a1) = 0 then
        m_X1_greatestNodeAround_p4 n t w a0 a1 (a3 + 1)
      else
        some a3
def m_X1_greatestNodeAround (n : Nat) (w : Wd) (this : Nat) (a1 : Int32) (a2 : Int32) : Option Int32 :=
  m_X1_greatestNodeAround_p4 n n w this a1 (a2 + 1)
def m_X3_quadrant (a0 : Int32) (a1 : Int32) : Int32 :=
  ((a1 >>> (((2 * (m_X3_exponent a0)) - 2) &&& 31 : Int32)) &&& 3)
def m_X3_gather (a0 : Int32) : Int32 :=
  nm1 (α := Int32) (((((a0 &&& 21845) ||| ((a0 &&& 21845) >>> (1 &&& 31 : Int32))) &&& 13107) ||| ((((a0 &&& 21845) ||| ((a0 &&& 21845) >>> (1 &&& 31 : Int32))) &&& 13107) >>> (2 &&& 31 : Int32))) &&& 3855) fun y1 =>
  ((y1 ||| (y1 >>> (4 &&& 31 : Int32))) &&& 255)
def m_X3_xOf (a0 : Int32) : Int32 :=
  (m_X3_gather a0)
def m_X3_yOf (a0 : Int32) : Int32 :=
  (m_X3_gather (a0 >>> (1 &&& 31 : Int32)))
def m_X1_childOf_p89 (n : Nat) (w : Wd) (a0 : Nat) (a1 : Int32) (a4 : Int32) (a5 : Int32) : Option Int32 :=
  if a4 = a5 then
    if a4 = (-1) then
      some (-1)
    else
      some ((1000 + (64 * (m_X3_yOf a4))) + (m_X3_xOf a4))
  else
    (chk 1 w a0).bind fun u1 =>
    (m_X1_greatestNodeAround n w a0 a4 a1).bind fun x2 =>
    some x2
def m_X1_childOf_p16 (n : Nat) : Nat → Wd → Nat → Int32 → Int32 → Int32 → Int32 → Int32 → Int32 → Option Int32
  | 0, _, _, _, _, _, _, _, _ => none
  | t + 1, w, a0, a1, a2, a3, a4, a5, a6 =>
    (gfI 1 1 w a0).bind fun x1 =>
    if x1 ≤ a6 then
      m_X1_childOf_p89 n w a0 a1 a4 a5
    else
      (gfR 1 0 w a0).bind fun q2 =>
      (agI 0 w q2 a6).bind fun x3 =>
      if (m_X3_holds a3 x3) = 0 then
        m_X1_childOf_p16 n t w a0 a1 a2 a3 a4 a5 (a6 + 1)
      else
        (gfR 1 0 w a0).bind fun q4 =>
        (agI 0 w q4 a6).bind fun x5 =>
        if (m_X3_quadrant a3 x5) = a2 then
          if a4 = (-1) then
            (gfR 1 0 w a0).bind fun q8 =>
            (agI 0 w q8 a6).bind fun x9 =>
            (gfR 1 0 w a0).bind fun q10 =>
            (agI 0 w q10 a6).bind fun x11 =>
            m_X1_childOf_p16 n t w a0 a1 a2 a3 x9 x11 (a6 + 1)
          else
            (gfR 1 0 w a0).bind fun q6 =>
            (agI 0 w q6 a6).bind fun x7 =>
            m_X1_childOf_p16 n t w a0 a1 a2 a3 a4 x7 (a6 + 1)
        else
          m_X1_childOf_p16 n t w a0 a1 a2 a3 a4 a5 (a6 + 1)
def m_X1_childOf (n : Nat) (w : Wd) (this : Nat) (a1 : Int32) (a2 : Int32) : Option Int32 :=
  (gfR 1 2 w this).bind fun q1 =>
  (agI 0 w q1 a1).bind fun x2 =>
  m_X1_childOf_p16 n n w this a1 a2 x2 (-1) (-1) 0
def m_X1_stepTowards (n : Nat) (w : Wd) (this : Nat) (a1 : Int32) (a2 : Int32) : Option Int32 :=
  (gfR 1 2 w this).bind fun q1 =>
  (agI 0 w q1 a1).bind fun x2 =>
  (chk 1 w this).bind fun u3 =>
  (m_X1_childOf n w this a1 (m_X3_quadrant x2 a2)).bind fun x4 =>
  if x4 = (-1) then
    some (-1)
  else
    if x4 < 1000 then
      (gfR 1 2 w this).bind fun q5 =>
      (agI 0 w q5 x4).bind fun x6 =>
      if (m_X3_holds x6 a2) = 0 then
        some (-1)
      else
        some x4
    else
      some (-1)
def m_X0_find_p91 (n : Nat) (k27 : Wd → Nat → Int32 → Int32 → Int32 → Int32 → Option Int32) (w : Wd) (a0 : Nat) (a4 : Int32) (a5 : Int32) (a6 : Int32) (a7 : Int32) (a8 : Nat) : Option Int32 :=
  if a7 ≤ 0 then
    k27 w a0 a4 a5 a6 (a7 + (-1))
  else
    (gfR 0 0 w a0).bind fun q1 =>
    (agQ 3 w q1 (a7 - 1)).bind fun q2 =>
    (gfR 1 2 w a8).bind fun q3 =>
    (agI 0 w q3 a6).bind fun x4 =>
    (chk 1 w q2).bind fun u5 =>
    (m_X1_indexOf n w q2 x4).bind fun x6 =>
    k27 w a0 a4 (a5 + 1) x6 (a7 + (-1))
def m_X0_find_p55 (n : Nat) (k27 : Wd → Nat → Int32 → Int32 → Int32 → Int32 → Option Int32) : Nat → Wd → Nat → Int32 → Int32 → Int32 → Int32 → Nat → Int32 → Int32 → Option Int32
  | 0, _, _, _, _, _, _, _, _, _ => none
  | t + 1, w, a0, a4, a5, a6, a7, a8, a9, a10 =>
    if 5 ≤ a10 then
      m_X0_find_p91 n k27 w a0 a4 a5 a6 a7 a8
    else
      if a9 = (-1) then
        m_X0_find_p91 n k27 w a0 a4 a5 a6 a7 a8
      else
        (chk 1 w a8).bind fun u1 =>
        (m_X1_stepTowards n w a8 a9 a4).bind fun x2 =>
        m_X0_find_p55 n k27 t w a0 a4 (a5 + 1) a9 a7 a8 x2 (a10 + 1)
def m_X0_find_p127 (n : Nat) (w : Wd) (a5 : Int32) (a6 : Int32) : Option Int32 :=
  some ((a5 * 32) + a6)
def m_X0_find_p27 (n : Nat) : Nat → Wd → Nat → Int32 → Int32 → Int32 → Int32 → Option Int32
  | 0, _, _, _, _, _, _ => none
  | t + 1, w, a0, a4, a5, a6, a7 =>
    if a7 < 0 then
      m_X0_find_p127 n w a5 a6
    else
      (gfR 0 0 w a0).bind fun q1 =>
      (agQ 3 w q1 a7).bind fun q2 =>
      (chk 1 w q2).bind fun u3 =>
      (m_X1_stepTowards n w q2 a6 a4).bind fun x4 =>
      m_X0_find_p55 n (fun w b0 b4 b5 b6 b7 => m_X0_find_p27 n t w b0 b4 b5 b6 b7) n w a0 a4 a5 a6 a7 q2 x4 0
def m_X0_find (n : Nat) (w : Wd) (this : Nat) (a1 : Int32) (a2 : Int32) (a3 : Int32) : Option Int32 :=
  if a3 = 0 then
    m_X0_find_p27 n n w this (m_X3_code a1 a2) 0 0 0
  else
    (chk 0 w this).bind fun u1 =>
    (m_X0_greatestLevel n w this).bind fun x2 =>
    m_X0_find_p27 n n w this (m_X3_code a1 a2) 0 0 x2
def m_X1_depthOf_p4 (n : Nat) : Nat → Wd → Nat → Int32 → Int32 → Int32 → Option Int32
  | 0, _, _, _, _, _ => none
  | t + 1, w, a0, a1, a2, a3 =>
    if a1 ≤ a3 then
      some a2
    else
      (gfR 1 2 w a0).bind fun q1 =>
      (agI 0 w q1 a3).bind fun x2 =>
      (gfR 1 2 w a0).bind fun q3 =>
      (agI 0 w q3 a1).bind fun x4 =>
      if (m_X3_holds x2 (m_X3_corner x4)) = 0 then
        m_X1_depthOf_p4 n t w a0 a1 a2 (a3 + 1)
      else
        m_X1_depthOf_p4 n t w a0 a1 (a2 + 1) (a3 + 1)
def m_X1_depthOf (n : Nat) (w : Wd) (this : Nat) (a1 : Int32) : Option Int32 :=
  m_X1_depthOf_p4 n n w this a1 0 0
def m_X1_greatestDepth_p4 (n : Nat) : Nat → Wd → Nat → Int32 → Int32 → Option Int32
  | 0, _, _, _, _ => none
  | t + 1, w, a0, a1, a2 =>
    (gfI 1 3 w a0).bind fun x1 =>
    if x1 ≤ a2 then
      some a1
    else
      (chk 1 w a0).bind fun u2 =>
      (m_X1_depthOf n w a0 a2).bind fun x3 =>
      m_X1_greatestDepth_p4 n t w a0 (mxI a1 x3) (a2 + 1)
def m_X1_greatestDepth (n : Nat) (w : Wd) (this : Nat) : Option Int32 :=
  m_X1_greatestDepth_p4 n n w this 0 0
def m_X1_pointsIn_p4 (n : Nat) : Nat → Wd → Nat → Int32 → Int32 → Int32 → Option Int32
  | 0, _, _, _, _, _ => none
  | t + 1, w, a0, a1, a2, a3 =>
    (gfI 1 1 w a0).bind fun x1 =>
    if x1 ≤ a3 then
      some a2
    else
      (gfR 1 0 w a0).bind fun q2 =>
      (agI 0 w q2 a3).bind fun x3 =>
      if (m_X3_holds a1 x3) = 0 then
        m_X1_pointsIn_p4 n t w a0 a1 a2 (a3 + 1)
      else
        m_X1_pointsIn_p4 n t w a0 a1 (a2 + 1) (a3 + 1)
def m_X1_pointsIn (n : Nat) (w : Wd) (this : Nat) (a1 : Int32) : Option Int32 :=
  m_X1_pointsIn_p4 n n w this a1 0 0
def m_J6_bitCount_0f7a4 (a0 : Int32) : Int32 :=
  nm1 (α := Int32) (a0 - ((((Int32.toUInt32 a0) >>> (Int32.toUInt32 1 &&& Int32.toUInt32 31)).toInt32) &&& 1431655765)) fun y1 =>
  nm1 (α := Int32) ((y1 &&& 858993459) + ((((Int32.toUInt32 y1) >>> (Int32.toUInt32 2 &&& Int32.toUInt32 31)).toInt32) &&& 858993459)) fun y2 =>
  nm1 (α := Int32) ((y2 + (((Int32.toUInt32 y2) >>> (Int32.toUInt32 4 &&& Int32.toUInt32 31)).toInt32)) &&& 252645135) fun y3 =>
  nm1 (α := Int32) (y3 + (((Int32.toUInt32 y3) >>> (Int32.toUInt32 8 &&& Int32.toUInt32 31)).toInt32)) fun y4 =>
  nm1 (α := Int32) (y4 + (((Int32.toUInt32 y4) >>> (Int32.toUInt32 16 &&& Int32.toUInt32 31)).toInt32)) fun y5 =>
  (y5 &&& 63)
def m_X1_quadrantsIn_p46 (n : Nat) (w : Wd) (a2 : Int32) : Option Int32 :=
  some (m_J6_bitCount_0f7a4 a2)
def m_X1_quadrantsIn_p4 (n : Nat) : Nat → Wd → Nat → Int32 → Int32 → Int32 → Option Int32
  | 0, _, _, _, _, _ => none
  | t + 1, w, a0, a1, a2, a3 =>
    (gfI 1 1 w a0).bind fun x1 =>
    if x1 ≤ a3 then
      m_X1_quadrantsIn_p46 n w a2
    else
      (gfR 1 0 w a0).bind fun q2 =>
      (agI 0 w q2 a3).bind fun x3 =>
      if (m_X3_holds a1 x3) = 0 then
        m_X1_quadrantsIn_p4 n t w a0 a1 a2 (a3 + 1)
      else
        (gfR 1 0 w a0).bind fun q4 =>
        (agI 0 w q4 a3).bind fun x5 =>
        m_X1_quadrantsIn_p4 n t w a0 a1 (a2 ||| (1 <<< ((m_X3_quadrant a1 x5) &&& 31 : Int32))) (a3 + 1)
def m_X1_quadrantsIn (n : Nat) (w : Wd) (this : Nat) (a1 : Int32) : Option Int32 :=
  m_X1_quadrantsIn_p4 n n w this a1 0 0
def m_X1_positionChildren_p14 (n : Nat) (k4 : Wd → Nat → Int32 → Int32 → Option Int32) : Nat → Wd → Nat → Int32 → Int32 → Int32 → Option Int32
  | 0, _, _, _, _, _ => none
  | t + 1, w, a0, a1, a2, a3 =>
    if 4 ≤ a3 then
      k4 w a0 a1 (a2 + 1)
    else
      (chk 1 w a0).bind fun u1 =>
      (m_X1_childOf n w a0 a2 a3).bind fun x2 =>
      if x2 < 1000 then
        m_X1_positionChildren_p14 n k4 t w a0 a1 a2 (a3 + 1)
      else
        m_X1_positionChildren_p14 n k4 t w a0 (a1 + 1) a2 (a3 + 1)
def m_X1_positionChildren_p4 (n : Nat) : Nat → Wd → Nat → Int32 → Int32 → Option Int32
  | 0, _, _, _, _ => none
  | t + 1, w, a0, a1, a2 =>
    (gfI 1 3 w a0).bind fun x1 =>
    if x1 ≤ a2 then
      some a1
    else
      m_X1_positionChildren_p14 n (fun w b0 b1 b2 => m_X1_positionChildren_p4 n t w b0 b1 b2) n w a0 a1 a2 0
def m_X1_positionChildren (n : Nat) (w : Wd) (this : Nat) : Option Int32 :=
  m_X1_positionChildren_p4 n n w this 0 0
def m_X1_differentPositions_p4 (n : Nat) : Nat → Wd → Nat → Int32 → Int32 → Option Int32
  | 0, _, _, _, _ => none
  | t + 1, w, a0, a1, a2 =>
    (gfI 1 1 w a0).bind fun x1 =>
    if x1 ≤ a2 then
      some a1
    else
      if a2 = 0 then
        m_X1_differentPositions_p4 n t w a0 (a1 + 1) (a2 + 1)
      else
        (gfR 1 0 w a0).bind fun q2 =>
        (agI 0 w q2 a2).bind fun x3 =>
        (gfR 1 0 w a0).bind fun q4 =>
        (agI 0 w q4 (a2 - 1)).bind fun x5 =>
        if x3 = x5 then
          m_X1_differentPositions_p4 n t w a0 a1 (a2 + 1)
        else
          m_X1_differentPositions_p4 n t w a0 (a1 + 1) (a2 + 1)
def m_X1_differentPositions (n : Nat) (w : Wd) (this : Nat) : Option Int32 :=
  m_X1_differentPositions_p4 n n w this 0 0
def m_X3_size (a0 : Int32) : Int32 :=
  (1 <<< ((m_X3_exponent a0) &&& 31 : Int32))
def m_X6_distance (a0 : Int32) (a1 : Int32) (a2 : Int32) (a3 : Int32) : Int32 :=
  (((a0 - a2) * (a0 - a2)) + ((a1 - a3) * (a1 - a3)))
def m_X3_distanceTo (a0 : Int32) (a1 : Int32) (a2 : Int32) : Int32 :=
  nm1 (α := Int32) (mxI (m_X3_xOf (m_X3_corner a0)) (mnI a1 ((m_X3_xOf (m_X3_corner a0)) + ((m_X3_size a0) - 1)))) fun y1 =>
  nm1 (α := Int32) (mxI (m_X3_yOf (m_X3_corner a0)) (mnI a2 ((m_X3_yOf (m_X3_corner a0)) + ((m_X3_size a0) - 1)))) fun y2 =>
  (m_X6_distance a1 a2 y1 y2)
def m_X1_nodesWithin_p6 (n : Nat) : Nat → Wd → Nat → Int32 → Int32 → Int32 → Int32 → Int32 → Option Int32
  | 0, _, _, _, _, _, _, _ => none
  | t + 1, w, a0, a1, a2, a3, a4, a5 =>
    (gfI 1 3 w a0).bind fun x1 =>
    if x1 ≤ a5 then
      some a4
    else
      (gfR 1 2 w a0).bind fun q2 =>
      (agI 0 w q2 a5).bind fun x3 =>
      if a1 < (m_X3_distanceTo x3 a2 a3) then
        m_X1_nodesWithin_p6 n t w a0 a1 a2 a3 a4 (a5 + 1)
      else
        m_X1_nodesWithin_p6 n t w a0 a1 a2 a3 (a4 + 1) (a5 + 1)
def m_X1_nodesWithin (n : Nat) (w : Wd) (this : Nat) (a1 : Int32) (a2 : Int32) (a3 : Int32) : Option Int32 :=
  m_X1_nodesWithin_p6 n n w this a1 a2 a3 0 0
def m_X2_append (n : Nat) (w : Wd) (this : Nat) (a1 : Int32) : Option Wd :=
  (gfI 2 1 w this).bind fun x1 =>
  if 120 ≤ x1 then
    some w
  else
    (gfR 2 0 w this).bind fun q2 =>
    (gfI 2 1 w this).bind fun x3 =>
    (asI 0 w q2 x3 a1).bind fun w4 =>
    (gfI 2 1 w4 this).bind fun x5 =>
    (pfV 2 1 w4 this (.int (x5 + 1))).bind fun w6 =>
    some w6
def m_X2_rewind (n : Nat) (w : Wd) (this : Nat) : Option Wd :=
  (pfV 2 4 w this (.int 0)).bind fun w1 =>
  (pfV 2 5 w1 this (.int (-1))).bind fun w2 =>
  some w2
def m_X2_numbersOf (a0 : Int32) : Int32 :=
  if a0 = 2 then
    1
  else
    if a0 = 4 then
      1
    else
      3
def m_X2_failAt (n : Nat) (w : Wd) (this : Nat) (a1 : Int32) : Option (Int32 × Wd) :=
  (pfV 2 5 w this (.int a1)).bind fun w1 =>
  some (0, w1)
def m_X2_peek (n : Nat) (w : Wd) (this : Nat) : Option Int32 :=
  (gfI 2 4 w this).bind fun x1 =>
  (gfI 2 1 w this).bind fun x2 =>
  if x2 ≤ x1 then
    some (-1)
  else
    (gfR 2 0 w this).bind fun q3 =>
    (gfI 2 4 w this).bind fun x4 =>
    (agI 0 w q3 x4).bind fun x5 =>
    some x5
def m_X2_passByte (n : Nat) (w : Wd) (this : Nat) (a1 : Int32) : Option (Int32 × Wd) :=
  (chk 2 w this).bind fun u1 =>
  (m_X2_peek n w this).bind fun x2 =>
  if x2 = a1 then
    (gfI 2 4 w this).bind fun x3 =>
    (pfV 2 4 w this (.int (x3 + 1))).bind fun w4 =>
    some (1, w4)
  else
    (gfI 2 4 w this).bind fun x5 =>
    (chk 2 w this).bind fun u6 =>
    (m_X2_failAt n w this x5).bind fun z7 =>
    (bck z7.1).bind fun u8 =>
    some (z7.1, z7.2)
def m_X2_passSpaces_p0 (n : Nat) : Nat → Wd → Nat → Option Wd
  | 0, _, _ => none
  | t + 1, w, a0 =>
    (gfI 2 4 w a0).bind fun x1 =>
    (gfI 2 1 w a0).bind fun x2 =>
    if x2 ≤ x1 then
      some w
    else
      (gfR 2 0 w a0).bind fun q3 =>
      (gfI 2 4 w a0).bind fun x4 =>
      (agI 0 w q3 x4).bind fun x5 =>
      if x5 = 32 then
        (gfI 2 4 w a0).bind fun x6 =>
        (pfV 2 4 w a0 (.int (x6 + 1))).bind fun w7 =>
        m_X2_passSpaces_p0 n t w7 a0
      else
        some w
def m_X2_passSpaces (n : Nat) (w : Wd) (this : Nat) : Option Wd :=
  (gfI 2 4 w this).bind fun x1 =>
  (gfI 2 1 w this).bind fun x2 =>
  if x2 ≤ x1 then
    some w
  else
    (gfR 2 0 w this).bind fun q3 =>
    (gfI 2 4 w this).bind fun x4 =>
    (agI 0 w q3 x4).bind fun x5 =>
    if x5 = 32 then
      (gfI 2 4 w this).bind fun x6 =>
      (pfV 2 4 w this (.int (x6 + 1))).bind fun w7 =>
      m_X2_passSpaces_p0 n n w7 this
    else
      some w
def m_X6_inside (a0 : Int32) (a1 : Int32) (a2 : Int32) : Int32 :=
  if a0 < a1 then
    0
  else
    if a2 < a0 then
      0
    else
      1
def m_X2_isDigit (a0 : Int32) : Int32 :=
  (m_X6_inside a0 48 57)
def m_X2_readNumber_p44 (n : Nat) (w : Wd) (a0 : Nat) (a1 : Int32) (a2 : Int32) : Option (Int32 × Wd) :=
  (chk 2 w a0).bind fun u1 =>
  (m_X2_peek n w a0).bind fun x2 =>
  if (m_X2_isDigit x2) = 0 then
    (gfI 2 4 w a0).bind fun x19 =>
    (chk 2 w a0).bind fun u20 =>
    (m_X2_failAt n w a0 x19).bind fun z21 =>
    (bck z21.1).bind fun u22 =>
    some (z21.1, z21.2)
  else
    (chk 2 w a0).bind fun u3 =>
    (m_X2_peek n w a0).bind fun x4 =>
    (gfI 2 4 w a0).bind fun x5 =>
    (pfV 2 4 w a0 (.int (x5 + 1))).bind fun w6 =>
    (chk 2 w6 a0).bind fun u7 =>
    (m_X2_peek n w6 a0).bind fun x8 =>
    if (m_X2_isDigit x8) = 0 then
      (gfR 2 3 w6 a0).bind fun q9 =>
      if a2 = 0 then
        (asI 0 w6 q9 a1 (x4 - 48)).bind fun w10 =>
        some (1, w10)
      else
        (asI 0 w6 q9 a1 (-(x4 - 48))).bind fun w11 =>
        some (1, w11)
    else
      (chk 2 w6 a0).bind fun u12 =>
      (m_X2_peek n w6 a0).bind fun x13 =>
      (gfI 2 4 w6 a0).bind fun x14 =>
      (pfV 2 4 w6 a0 (.int (x14 + 1))).bind fun w15 =>
      (gfR 2 3 w15 a0).bind fun q16 =>
      if a2 = 0 then
        (asI 0 w15 q16 a1 (((10 * (x4 - 48)) + x13) - 48)).bind fun w17 =>
        some (1, w17)
      else
        (asI 0 w15 q16 a1 (-(((10 * (x4 - 48)) + x13) - 48))).bind fun w18 =>
        some (1, w18)
def m_X2_readNumber (n : Nat) (w : Wd) (this : Nat) (a1 : Int32) : Option (Int32 × Wd) :=
  (chk 2 w this).bind fun u1 =>
  (m_X2_passByte n w this 32).bind fun z2 =>
  if z2.1 = 0 then
    some (0, z2.2)
  else
    (chk 2 z2.2 this).bind fun u3 =>
    (m_X2_passSpaces n z2.2 this).bind fun z4 =>
    (chk 2 z4 this).bind fun u5 =>
    (m_X2_peek n z4 this).bind fun x6 =>
    if x6 = 45 then
      (gfI 2 4 z4 this).bind fun x7 =>
      (pfV 2 4 z4 this (.int (x7 + 1))).bind fun w8 =>
      m_X2_readNumber_p44 n w8 this a1 1
    else
      m_X2_readNumber_p44 n z4 this a1 0
def m_X2_spells_p17 (K : Nat → Nat) (n : Nat) : Nat → Wd → Nat → Nat → Int32 → Int32 → Option Int32
  | 0, _, _, _, _, _ => none
  | t + 1, w, a0, a1, a2, a3 =>
    (strLen K a1).bind fun x1 =>
    if x1 ≤ a3 then
      some 1
    else
      (gfR 2 0 w a0).bind fun q2 =>
      (agI 0 w q2 (a2 + a3)).bind fun x3 =>
      (strAt K a1 a3).bind fun x4 =>
      if x3 = x4 then
        m_X2_spells_p17 K n t w a0 a1 a2 (a3 + 1)
      else
        some 0
def m_X2_spells (K : Nat → Nat) (n : Nat) (w : Wd) (this : Nat) (a1 : Nat) (a2 : Int32) : Option Int32 :=
  (gfI 2 4 w this).bind fun x1 =>
  (strLen K a1).bind fun x2 =>
  if (x1 - a2) = x2 then
    m_X2_spells_p17 K n n w this a1 a2 0
  else
    some 0
def m_X2_textOf (K : Nat → Nat) (n : Nat) (w : Wd) (a0 : Int32) : Option Nat :=
  if a0 = 0 then
    some (K 0)
  else if a0 = 1 then
    some (K 1)
  else if a0 = 2 then
    some (K 2)
  else if a0 = 3 then
    some (K 3)
  else 
    some (K 4)
def m_X2_readWord_p67 (K : Nat → Nat) (n : Nat) (w : Wd) (a0 : Nat) (a2 : Int32) : Option (Int32 × Wd) :=
  (pfV 2 2 w a0 (.int a2)).bind fun w1 =>
  some (1, w1)
def m_X2_readWord_p80 (K : Nat → Nat) (n : Nat) (w : Wd) (a0 : Nat) (a1 : Int32) : Option (Int32 × Wd) :=
  (chk 2 w a0).bind fun u1 =>
  (m_X2_failAt n w a0 a1).bind fun z2 =>
  (bck z2.1).bind fun u3 =>
  some (z2.1, z2.2)
def m_X2_readWord_p50 (K : Nat → Nat) (n : Nat) : Nat → Wd → Nat → Int32 → Int32 → Option (Int32 × Wd)
  | 0, _, _, _, _ => none
  | t + 1, w, a0, a1, a2 =>
    if 5 ≤ a2 then
      m_X2_readWord_p80 K n w a0 a1
    else
      (m_X2_textOf K n w a2).bind fun z1 =>
      (chk 2 w a0).bind fun u2 =>
      (m_X2_spells K n w a0 z1 a1).bind fun x3 =>
      if x3 = 0 then
        m_X2_readWord_p50 K n t w a0 a1 (a2 + 1)
      else
        m_X2_readWord_p67 K n w a0 a2
def m_X2_readWord_p48 (K : Nat → Nat) (n : Nat) (w : Wd) (a0 : Nat) (a1 : Int32) : Option (Int32 × Wd) :=
  m_X2_readWord_p50 K n n w a0 a1 0
def m_X2_readWord_p5 (K : Nat → Nat) (n : Nat) : Nat → Wd → Nat → Int32 → Option (Int32 × Wd)
  | 0, _, _, _ => none
  | t + 1, w, a0, a1 =>
    (gfI 2 4 w a0).bind fun x1 =>
    (gfI 2 1 w a0).bind fun x2 =>
    if x2 ≤ x1 then
      m_X2_readWord_p48 K n w a0 a1
    else
      (gfR 2 0 w a0).bind fun q3 =>
      (gfI 2 4 w a0).bind fun x4 =>
      (agI 0 w q3 x4).bind fun x5 =>
      if (m_X6_inside x5 97 122) = 0 then
        m_X2_readWord_p48 K n w a0 a1
      else
        (gfI 2 4 w a0).bind fun x6 =>
        (pfV 2 4 w a0 (.int (x6 + 1))).bind fun w7 =>
        m_X2_readWord_p5 K n t w7 a0 a1
def m_X2_readWord (K : Nat → Nat) (n : Nat) (w : Wd) (this : Nat) : Option (Int32 × Wd) :=
  (gfI 2 4 w this).bind fun x1 =>
  m_X2_readWord_p5 K n n w this x1
def m_X2_readCommand_p55 (K : Nat → Nat) (n : Nat) (w : Wd) (a0 : Nat) : Option (Int32 × Wd) :=
  (chk 2 w a0).bind fun u1 =>
  (m_X2_passSpaces n w a0).bind fun z2 =>
  (chk 2 z2 a0).bind fun u3 =>
  (m_X2_passByte n z2 a0 59).bind fun z4 =>
  (bck z4.1).bind fun u5 =>
  some (z4.1, z4.2)
def m_X2_readCommand_p34 (K : Nat → Nat) (n : Nat) : Nat → Wd → Nat → Int32 → Int32 → Option (Int32 × Wd)
  | 0, _, _, _, _ => none
  | t + 1, w, a0, a1, a2 =>
    if a1 ≤ a2 then
      m_X2_readCommand_p55 K n w a0
    else
      (chk 2 w a0).bind fun u1 =>
      (m_X2_readNumber n w a0 a2).bind fun z2 =>
      if z2.1 = 0 then
        some (0, z2.2)
      else
        m_X2_readCommand_p34 K n t z2.2 a0 a1 (a2 + 1)
def m_X2_readCommand (K : Nat → Nat) (n : Nat) (w : Wd) (this : Nat) : Option (Int32 × Wd) :=
  (chk 2 w this).bind fun u1 =>
  (m_X2_passSpaces n w this).bind fun z2 =>
  (gfI 2 4 z2 this).bind fun x3 =>
  (gfI 2 1 z2 this).bind fun x4 =>
  if x3 = x4 then
    some (0, z2)
  else
    (chk 2 z2 this).bind fun u5 =>
    (m_X2_readWord K n z2 this).bind fun z6 =>
    if z6.1 = 0 then
      some (0, z6.2)
    else
      (gfI 2 2 z6.2 this).bind fun x7 =>
      m_X2_readCommand_p34 K n n z6.2 this (m_X2_numbersOf x7) 0
def m_X2_findFault_p6 (K : Nat → Nat) (n : Nat) : Nat → Wd → Nat → Int32 → Option (Int32 × Wd)
  | 0, _, _, _ => none
  | t + 1, w, a0, a1 =>
    if 120 ≤ a1 then
      (gfI 2 5 w a0).bind fun x1 =>
      some (x1, w)
    else
      (chk 2 w a0).bind fun u2 =>
      (m_X2_readCommand K n w a0).bind fun z3 =>
      if z3.1 = 0 then
        (gfI 2 5 z3.2 a0).bind fun x4 =>
        some (x4, z3.2)
      else
        m_X2_findFault_p6 K n t z3.2 a0 (a1 + 1)
def m_X2_findFault (K : Nat → Nat) (n : Nat) (w : Wd) (this : Nat) : Option (Int32 × Wd) :=
  (chk 2 w this).bind fun u1 =>
  (m_X2_rewind n w this).bind fun z2 =>
  m_X2_findFault_p6 K n n z2 this 0
def m_X4_copy_p123 (n : Nat) (w : Wd) (a0 : Nat) (a1 : Nat) : Option Wd :=
  (gfI 3 8 w a1).bind fun x1 =>
  (pfV 3 8 w a0 (.int x1)).bind fun w2 =>
  some w2
def m_X4_copy_p76 (n : Nat) : Nat → Wd → Nat → Nat → Int32 → Option Wd
  | 0, _, _, _, _ => none
  | t + 1, w, a0, a1, a2 =>
    if 4 ≤ a2 then
      m_X4_copy_p123 n w a0 a1
    else
      (gfR 3 5 w a0).bind fun q1 =>
      (gfR 3 5 w a1).bind fun q2 =>
      (agI 0 w q2 a2).bind fun x3 =>
      (asI 0 w q1 a2 x3).bind fun w4 =>
      (gfR 3 6 w4 a0).bind fun q5 =>
      (gfR 3 6 w4 a1).bind fun q6 =>
      (agI 0 w4 q6 a2).bind fun x7 =>
      (asI 0 w4 q5 a2 x7).bind fun w8 =>
      (gfR 3 7 w8 a0).bind fun q9 =>
      (gfR 3 7 w8 a1).bind fun q10 =>
      (agI 0 w8 q10 a2).bind fun x11 =>
      (asI 0 w8 q9 a2 x11).bind fun w12 =>
      m_X4_copy_p76 n t w12 a0 a1 (a2 + 1)
def m_X4_copy_p74 (n : Nat) (w : Wd) (a0 : Nat) (a1 : Nat) : Option Wd :=
  m_X4_copy_p76 n n w a0 a1 0
def m_X4_copy_p2 (n : Nat) : Nat → Wd → Nat → Nat → Int32 → Option Wd
  | 0, _, _, _, _ => none
  | t + 1, w, a0, a1, a2 =>
    if 24 ≤ a2 then
      m_X4_copy_p74 n w a0 a1
    else
      (gfR 3 0 w a0).bind fun q1 =>
      (gfR 3 0 w a1).bind fun q2 =>
      (agI 1 w q2 a2).bind fun x3 =>
      (asI 1 w q1 a2 (vp_nar .boolean x3)).bind fun w4 =>
      (gfR 3 1 w4 a0).bind fun q5 =>
      (gfR 3 1 w4 a1).bind fun q6 =>
      (agI 0 w4 q6 a2).bind fun x7 =>
      (asI 0 w4 q5 a2 x7).bind fun w8 =>
      (gfR 3 2 w8 a0).bind fun q9 =>
      (gfR 3 2 w8 a1).bind fun q10 =>
      (agI 0 w8 q10 a2).bind fun x11 =>
      (asI 0 w8 q9 a2 x11).bind fun w12 =>
      (gfR 3 3 w12 a0).bind fun q13 =>
      (gfR 3 3 w12 a1).bind fun q14 =>
      (agI 0 w12 q14 a2).bind fun x15 =>
      (asI 0 w12 q13 a2 x15).bind fun w16 =>
      (gfR 3 4 w16 a0).bind fun q17 =>
      (gfR 3 4 w16 a1).bind fun q18 =>
      (agI 0 w16 q18 a2).bind fun x19 =>
      (asI 0 w16 q17 a2 x19).bind fun w20 =>
      m_X4_copy_p2 n t w20 a0 a1 (a2 + 1)
def m_X4_copy (n : Nat) (w : Wd) (this : Nat) (a1 : Nat) : Option Wd :=
  m_X4_copy_p2 n n w this a1 0
def m_X4_put (n : Nat) (w : Wd) (this : Nat) (a1 : Int32) (a2 : Int32) (a3 : Int32) : Option Wd :=
  (gfR 3 0 w this).bind fun q1 =>
  (asI 1 w q1 a1 (vp_nar .boolean 1)).bind fun w2 =>
  (gfR 3 1 w2 this).bind fun q3 =>
  (asI 0 w2 q3 a1 a2).bind fun w4 =>
  (gfR 3 2 w4 this).bind fun q5 =>
  (asI 0 w4 q5 a1 a3).bind fun w6 =>
  some w6
def m_X4_clear (n : Nat) (w : Wd) (this : Nat) (a1 : Int32) : Option Wd :=
  (gfR 3 0 w this).bind fun q1 =>
  (asI 1 w q1 a1 (vp_nar .boolean 0)).bind fun w2 =>
  (gfR 3 1 w2 this).bind fun q3 =>
  (asI 0 w2 q3 a1 0).bind fun w4 =>
  (gfR 3 2 w4 this).bind fun q5 =>
  (asI 0 w4 q5 a1 0).bind fun w6 =>
  (gfR 3 3 w6 this).bind fun q7 =>
  (asI 0 w6 q7 a1 0).bind fun w8 =>
  (gfR 3 4 w8 this).bind fun q9 =>
  (asI 0 w8 q9 a1 0).bind fun w10 =>
  some w10
def m_X4_reflected (a0 : Int32) : Int32 :=
  if 0 ≤ a0 then
    if 64 ≤ a0 then
      (126 - a0)
    else
      a0
  else
    (-a0)
def m_X4_step_p126 (n : Nat) (w : Wd) (a0 : Nat) : Option Wd :=
  (gfI 3 8 w a0).bind fun x1 =>
  (pfV 3 8 w a0 (.int (x1 + 1))).bind fun w2 =>
  some w2
def m_X4_step_p2 (n : Nat) : Nat → Wd → Nat → Int32 → Option Wd
  | 0, _, _, _ => none
  | t + 1, w, a0, a1 =>
    if 24 ≤ a1 then
      m_X4_step_p126 n w a0
    else
      (gfR 3 1 w a0).bind fun q1 =>
      (agI 0 w q1 a1).bind fun x2 =>
      (gfR 3 3 w a0).bind fun q3 =>
      (agI 0 w q3 a1).bind fun x4 =>
      (gfR 3 2 w a0).bind fun q5 =>
      (agI 0 w q5 a1).bind fun x6 =>
      (gfR 3 4 w a0).bind fun q7 =>
      (agI 0 w q7 a1).bind fun x8 =>
      (gfR 3 1 w a0).bind fun q9 =>
      (asI 0 w q9 a1 (m_X4_reflected (x2 + x4))).bind fun w10 =>
      (gfR 3 2 w10 a0).bind fun q11 =>
      (asI 0 w10 q11 a1 (m_X4_reflected (x6 + x8))).bind fun w12 =>
      (gfR 3 3 w12 a0).bind fun q13 =>
      (gfR 3 1 w12 a0).bind fun q14 =>
      (agI 0 w12 q14 a1).bind fun x15 =>
      if x15 = (x2 + x4) then
        (gfR 3 3 w12 a0).bind fun q28 =>
        (agI 0 w12 q28 a1).bind fun x29 =>
        (asI 0 w12 q13 a1 x29).bind fun w30 =>
        (gfR 3 4 w30 a0).bind fun q31 =>
        (gfR 3 2 w30 a0).bind fun q32 =>
        (agI 0 w30 q32 a1).bind fun x33 =>
        if x33 = (x6 + x8) then
          (gfR 3 4 w30 a0).bind fun q37 =>
          (agI 0 w30 q37 a1).bind fun x38 =>
          (asI 0 w30 q31 a1 x38).bind fun w39 =>
          m_X4_step_p2 n t w39 a0 (a1 + 1)
        else
          (gfR 3 4 w30 a0).bind fun q34 =>
          (agI 0 w30 q34 a1).bind fun x35 =>
          (asI 0 w30 q31 a1 (-x35)).bind fun w36 =>
          m_X4_step_p2 n t w36 a0 (a1 + 1)
      else
        (gfR 3 3 w12 a0).bind fun q16 =>
        (agI 0 w12 q16 a1).bind fun x17 =>
        (asI 0 w12 q13 a1 (-x17)).bind fun w18 =>
        (gfR 3 4 w18 a0).bind fun q19 =>
        (gfR 3 2 w18 a0).bind fun q20 =>
        (agI 0 w18 q20 a1).bind fun x21 =>
        if x21 = (x6 + x8) then
          (gfR 3 4 w18 a0).bind fun q25 =>
          (agI 0 w18 q25 a1).bind fun x26 =>
          (asI 0 w18 q19 a1 x26).bind fun w27 =>
          m_X4_step_p2 n t w27 a0 (a1 + 1)
        else
          (gfR 3 4 w18 a0).bind fun q22 =>
          (agI 0 w18 q22 a1).bind fun x23 =>
          (asI 0 w18 q19 a1 (-x23)).bind fun w24 =>
          m_X4_step_p2 n t w24 a0 (a1 + 1)
def m_X4_step (n : Nat) (w : Wd) (this : Nat) : Option Wd :=
  m_X4_step_p2 n n w this 0
def m_X4_count_p4 (n : Nat) : Nat → Wd → Nat → Int32 → Int32 → Option Int32
  | 0, _, _, _, _ => none
  | t + 1, w, a0, a1, a2 =>
    if 24 ≤ a2 then
      some a1
    else
      (gfR 3 0 w a0).bind fun q1 =>
      (agI 1 w q1 a2).bind fun x2 =>
      if x2 = 0 then
        m_X4_count_p4 n t w a0 (a1 + 0) (a2 + 1)
      else
        m_X4_count_p4 n t w a0 (a1 + 1) (a2 + 1)
def m_X4_count (n : Nat) (w : Wd) (this : Nat) : Option Int32 :=
  m_X4_count_p4 n n w this 0 0
def m_X4_pairOf (n : Nat) (w : Wd) (this : Nat) (a1 : Int32) (a2 : Int32) (a3 : Int32) : Option Int32 :=
  (gfR 3 1 w this).bind fun q1 =>
  (agI 0 w q1 a1).bind fun x2 =>
  (gfR 3 2 w this).bind fun q3 =>
  (agI 0 w q3 a1).bind fun x4 =>
  some (((m_X6_distance x2 x4 a2 a3) * 32) + a1)
def m_X4_pairAfter_p6 (n : Nat) : Nat → Wd → Nat → Int32 → Int32 → Int32 → Int32 → Int32 → Option Int32
  | 0, _, _, _, _, _, _, _ => none
  | t + 1, w, a0, a1, a2, a3, a4, a5 =>
    if 24 ≤ a5 then
      some a4
    else
      (chk 3 w a0).bind fun u1 =>
      (m_X4_pairOf n w a0 a5 a2 a3).bind fun x2 =>
      (gfR 3 0 w a0).bind fun q3 =>
      (agI 1 w q3 a5).bind fun x4 =>
      if x4 = 0 then
        m_X4_pairAfter_p6 n t w a0 a1 a2 a3 a4 (a5 + 1)
      else
        if x2 ≤ a1 then
          m_X4_pairAfter_p6 n t w a0 a1 a2 a3 a4 (a5 + 1)
        else
          if a4 = (-1) then
            m_X4_pairAfter_p6 n t w a0 a1 a2 a3 x2 (a5 + 1)
          else
            if a4 ≤ x2 then
              m_X4_pairAfter_p6 n t w a0 a1 a2 a3 a4 (a5 + 1)
            else
              m_X4_pairAfter_p6 n t w a0 a1 a2 a3 x2 (a5 + 1)
def m_X4_pairAfter (n : Nat) (w : Wd) (this : Nat) (a1 : Int32) (a2 : Int32) (a3 : Int32) : Option Int32 :=
  m_X4_pairAfter_p6 n n w this a1 a2 a3 (-1) 0
def m_X4_pairsAfter_p6 (n : Nat) : Nat → Wd → Nat → Int32 → Int32 → Int32 → Int32 → Int32 → Option Int32
  | 0, _, _, _, _, _, _, _ => none
  | t + 1, w, a0, a1, a2, a3, a4, a5 =>
    if 24 ≤ a5 then
      some a4
    else
      (gfR 3 0 w a0).bind fun q1 =>
      (agI 1 w q1 a5).bind fun x2 =>
      if x2 = 0 then
        m_X4_pairsAfter_p6 n t w a0 a1 a2 a3 a4 (a5 + 1)
      else
        (chk 3 w a0).bind fun u3 =>
        (m_X4_pairOf n w a0 a5 a2 a3).bind fun x4 =>
        if x4 ≤ a1 then
          m_X4_pairsAfter_p6 n t w a0 a1 a2 a3 a4 (a5 + 1)
        else
          m_X4_pairsAfter_p6 n t w a0 a1 a2 a3 (a4 + 1) (a5 + 1)
def m_X4_pairsAfter (n : Nat) (w : Wd) (this : Nat) (a1 : Int32) (a2 : Int32) (a3 : Int32) : Option Int32 :=
  m_X4_pairsAfter_p6 n n w this a1 a2 a3 0 0
def m_X4_closestCouple_p14 (n : Nat) (k4 : Wd → Nat → Int32 → Int32 → Option Int32) : Nat → Wd → Nat → Int32 → Int32 → Int32 → Option Int32
  | 0, _, _, _, _, _ => none
  | t + 1, w, a0, a1, a2, a3 =>
    (gfR 3 0 w a0).bind fun q1 =>
    (agI 1 w q1 a2).bind fun x2 =>
    if x2 = 0 then
      k4 w a0 a1 (a2 + 1)
    else
      if 24 ≤ a3 then
        k4 w a0 a1 (a2 + 1)
      else
        (gfR 3 1 w a0).bind fun q3 =>
        (agI 0 w q3 a3).bind fun x4 =>
        (gfR 3 2 w a0).bind fun q5 =>
        (agI 0 w q5 a3).bind fun x6 =>
        (chk 3 w a0).bind fun u7 =>
        (m_X4_pairOf n w a0 a2 x4 x6).bind fun x8 =>
        (gfR 3 0 w a0).bind fun q9 =>
        (agI 1 w q9 a3).bind fun x10 =>
        if x10 = 0 then
          m_X4_closestCouple_p14 n k4 t w a0 a1 a2 (a3 + 1)
        else
          if a1 = (-1) then
            m_X4_closestCouple_p14 n k4 t w a0 ((x8 * 32) + a3) a2 (a3 + 1)
          else
            if a1 ≤ ((x8 * 32) + a3) then
              m_X4_closestCouple_p14 n k4 t w a0 a1 a2 (a3 + 1)
            else
              m_X4_closestCouple_p14 n k4 t w a0 ((x8 * 32) + a3) a2 (a3 + 1)
def m_X4_closestCouple_p4 (n : Nat) : Nat → Wd → Nat → Int32 → Int32 → Option Int32
  | 0, _, _, _, _ => none
  | t + 1, w, a0, a1, a2 =>
    if 24 ≤ a2 then
      some a1
    else
      m_X4_closestCouple_p14 n (fun w b0 b1 b2 => m_X4_closestCouple_p4 n t w b0 b1 b2) n w a0 a1 a2 (a2 + 1)
def m_X4_closestCouple (n : Nat) (w : Wd) (this : Nat) : Option Int32 :=
  m_X4_closestCouple_p4 n n w this (-1) 0
def m_X5_push (n : Nat) (w : Wd) (this : Nat) (a1 : Nat) : Option Wd :=
  (gfR 4 0 w this).bind fun q1 =>
  (gfI 4 1 w this).bind fun x2 =>
  (agQ 4 w q1 x2).bind fun q3 =>
  (chk 3 w q3).bind fun u4 =>
  (m_X4_copy n w q3 a1).bind fun z5 =>
  (gfI 4 1 z5 this).bind fun x6 =>
  (pfV 4 1 z5 this (.int (jrm (x6 + 1) 4))).bind fun w7 =>
  (gfI 4 2 w7 this).bind fun x8 =>
  (pfV 4 2 w7 this (.int (mnI (x8 + 1) 4))).bind fun w9 =>
  some w9
def m_X5_pop (n : Nat) (w : Wd) (this : Nat) (a1 : Nat) : Option Wd :=
  (gfI 4 1 w this).bind fun x1 =>
  (pfV 4 1 w this (.int (jrm ((x1 + 4) - 1) 4))).bind fun w2 =>
  (gfI 4 2 w2 this).bind fun x3 =>
  (pfV 4 2 w2 this (.int (x3 - 1))).bind fun w4 =>
  (gfR 4 0 w4 this).bind fun q5 =>
  (gfI 4 1 w4 this).bind fun x6 =>
  (agQ 4 w4 q5 x6).bind fun q7 =>
  (chk 3 w4 a1).bind fun u8 =>
  (m_X4_copy n w4 a1 q7).bind fun z9 =>
  some z9
def m_X6_settle (n : Nat) (w : Wd) (this : Nat) : Option (Int32 × Wd) :=
  (gfR 5 4 w this).bind fun q1 =>
  (gfR 5 0 w this).bind fun q2 =>
  (chk 0 w q1).bind fun u3 =>
  (m_X0_plant n w q1 q2).bind fun z4 =>
  (gfR 5 3 z4 this).bind fun q5 =>
  (gfR 5 4 z4 this).bind fun q6 =>
  (chk 0 z4 q5).bind fun u7 =>
  (m_X0_differences n z4 q5 q6).bind fun x8 =>
  (gfR 5 3 z4 this).bind fun q9 =>
  (gfR 5 4 z4 this).bind fun q10 =>
  (pfV 5 3 z4 this (.ref q10)).bind fun w11 =>
  (pfV 5 4 w11 this (.ref q9)).bind fun w12 =>
  some (x8, w12)
def m_X6_place (n : Nat) (w : Wd) (this : Nat) (a1 : Int32) (a2 : Int32) (a3 : Int32) : Option (Int32 × Wd) :=
  (gfR 5 0 w this).bind fun q1 =>
  (chk 3 w q1).bind fun u2 =>
  (m_X4_put n w q1 a1 a2 a3).bind fun z3 =>
  (chk 5 z3 this).bind fun u4 =>
  (m_X6_settle n z3 this).bind fun z5 =>
  some (z5.1, z5.2)
def m_X6_isId (a0 : Int32) : Int32 :=
  (m_X6_inside a0 0 23)
def m_X6_isPosition (a0 : Int32) (a1 : Int32) : Int32 :=
  if (m_X6_inside a0 0 63) = 0 then
    0
  else
    if (m_X6_inside a1 0 63) = 0 then
      0
    else
      1
def m_X6_refusalOfPlace (n : Nat) (w : Wd) (this : Nat) (a1 : Int32) (a2 : Int32) (a3 : Int32) (a4 : Int32) : Option Int32 :=
  if (m_X6_isId a1) = 0 then
    some 1
  else
    if (m_X6_isPosition a2 a3) = 0 then
      some 2
    else
      (gfR 5 0 w this).bind fun q1 =>
      (gfR 3 0 w q1).bind fun q2 =>
      (agI 1 w q2 a1).bind fun x3 =>
      if x3 = a4 then
        some 0
      else
        some 3
def m_X6_throwIf (n : Nat) (w : Wd) (a0 : Int32) : Option Unit :=
  if a0 = 1 then
    none
  else
    if a0 = 2 then
      none
    else
      if a0 = 3 then
        none
      else
        some ()
def m_X6_add (n : Nat) (w : Wd) (this : Nat) (a1 : Int32) (a2 : Int32) (a3 : Int32) : Option (Int32 × Wd) :=
  (chk 5 w this).bind fun u1 =>
  (m_X6_refusalOfPlace n w this a1 a2 a3 0).bind fun x2 =>
  (m_X6_throwIf n w x2).bind fun z3 =>
  (gfR 5 1 w this).bind fun q4 =>
  (gfR 5 0 w this).bind fun q5 =>
  (chk 4 w q4).bind fun u6 =>
  (m_X5_push n w q4 q5).bind fun z7 =>
  (chk 5 z7 this).bind fun u8 =>
  (m_X6_place n z7 this a1 a2 a3).bind fun z9 =>
  some (z9.1, z9.2)
def m_X6_move (n : Nat) (w : Wd) (this : Nat) (a1 : Int32) (a2 : Int32) (a3 : Int32) : Option (Int32 × Wd) :=
  (chk 5 w this).bind fun u1 =>
  (m_X6_refusalOfPlace n w this a1 a2 a3 1).bind fun x2 =>
  (m_X6_throwIf n w x2).bind fun z3 =>
  (gfR 5 1 w this).bind fun q4 =>
  (gfR 5 0 w this).bind fun q5 =>
  (chk 4 w q4).bind fun u6 =>
  (m_X5_push n w q4 q5).bind fun z7 =>
  (chk 5 z7 this).bind fun u8 =>
  (m_X6_place n z7 this a1 a2 a3).bind fun z9 =>
  some (z9.1, z9.2)
def m_X6_refusalOfDrop (n : Nat) (w : Wd) (this : Nat) (a1 : Int32) : Option Int32 :=
  if (m_X6_isId a1) = 0 then
    some 1
  else
    (gfR 5 0 w this).bind fun q1 =>
    (gfR 3 0 w q1).bind fun q2 =>
    (agI 1 w q2 a1).bind fun x3 =>
    if x3 = 0 then
      some 3
    else
      some 0
def m_X6_takeOut (n : Nat) (w : Wd) (this : Nat) (a1 : Int32) : Option (Int32 × Wd) :=
  (gfR 5 0 w this).bind fun q1 =>
  (chk 3 w q1).bind fun u2 =>
  (m_X4_clear n w q1 a1).bind fun z3 =>
  (chk 5 z3 this).bind fun u4 =>
  (m_X6_settle n z3 this).bind fun z5 =>
  some (z5.1, z5.2)
def m_X6_remove (n : Nat) (w : Wd) (this : Nat) (a1 : Int32) : Option (Int32 × Wd) :=
  (chk 5 w this).bind fun u1 =>
  (m_X6_refusalOfDrop n w this a1).bind fun x2 =>
  (m_X6_throwIf n w x2).bind fun z3 =>
  (gfR 5 1 w this).bind fun q4 =>
  (gfR 5 0 w this).bind fun q5 =>
  (chk 4 w q4).bind fun u6 =>
  (m_X5_push n w q4 q5).bind fun z7 =>
  (chk 5 z7 this).bind fun u8 =>
  (m_X6_takeOut n z7 this a1).bind fun z9 =>
  some (z9.1, z9.2)
def m_X6_refusalOfSpeed (n : Nat) (w : Wd) (this : Nat) (a1 : Int32) (a2 : Int32) (a3 : Int32) : Option Int32 :=
  if (m_X6_isId a1) = 0 then
    some 1
  else
    if (m_X6_inside a2 (-9) 9) = 0 then
      some 2
    else
      if (m_X6_inside a3 (-9) 9) = 0 then
        some 2
      else
        (gfR 5 0 w this).bind fun q1 =>
        (gfR 3 0 w q1).bind fun q2 =>
        (agI 1 w q2 a1).bind fun x3 =>
        if x3 = 0 then
          some 3
        else
          some 0
def m_X6_setSpeed (n : Nat) (w : Wd) (this : Nat) (a1 : Int32) (a2 : Int32) (a3 : Int32) : Option Wd :=
  (gfR 5 0 w this).bind fun q1 =>
  (gfR 3 3 w q1).bind fun q2 =>
  (asI 0 w q2 a1 a2).bind fun w3 =>
  (gfR 5 0 w3 this).bind fun q4 =>
  (gfR 3 4 w3 q4).bind fun q5 =>
  (asI 0 w3 q5 a1 a3).bind fun w6 =>
  some w6
def m_X6_setVelocity (n : Nat) (w : Wd) (this : Nat) (a1 : Int32) (a2 : Int32) (a3 : Int32) : Option (Int32 × Wd) :=
  (chk 5 w this).bind fun u1 =>
  (m_X6_refusalOfSpeed n w this a1 a2 a3).bind fun x2 =>
  (m_X6_throwIf n w x2).bind fun z3 =>
  (gfR 5 1 w this).bind fun q4 =>
  (gfR 5 0 w this).bind fun q5 =>
  (chk 4 w q4).bind fun u6 =>
  (m_X5_push n w q4 q5).bind fun z7 =>
  (gfR 5 0 z7 this).bind fun q8 =>
  (gfR 3 3 z7 q8).bind fun q9 =>
  (agI 0 z7 q9 a1).bind fun x10 =>
  (gfR 5 0 z7 this).bind fun q11 =>
  (gfR 3 4 z7 q11).bind fun q12 =>
  (agI 0 z7 q12 a1).bind fun x13 =>
  (chk 5 z7 this).bind fun u14 =>
  (m_X6_setSpeed n z7 this a1 a2 a3).bind fun z15 =>
  some (((10 * (abI x10)) + (abI x13)), z15)
def m_X6_letPass_p4 (n : Nat) : Nat → Wd → Nat → Int32 → Int32 → Int32 → Option (Int32 × Wd)
  | 0, _, _, _, _, _ => none
  | t + 1, w, a0, a1, a2, a3 =>
    if a1 ≤ a3 then
      some (a2, w)
    else
      (gfR 5 0 w a0).bind fun q1 =>
      (chk 3 w q1).bind fun u2 =>
      (m_X4_step n w q1).bind fun z3 =>
      (chk 5 z3 a0).bind fun u4 =>
      (m_X6_settle n z3 a0).bind fun z5 =>
      m_X6_letPass_p4 n t z5.2 a0 a1 (a2 + z5.1) (a3 + 1)
def m_X6_letPass (n : Nat) (w : Wd) (this : Nat) (a1 : Int32) : Option (Int32 × Wd) :=
  m_X6_letPass_p4 n n w this a1 0 0
def m_X6_refusalOfTicks (a0 : Int32) : Int32 :=
  if (m_X6_inside a0 1 50) = 0 then
    2
  else
    0
def m_X6_tick (n : Nat) (w : Wd) (this : Nat) (a1 : Int32) : Option (Int32 × Wd) :=
  (m_X6_throwIf n w (m_X6_refusalOfTicks a1)).bind fun z1 =>
  (gfR 5 1 w this).bind fun q2 =>
  (gfR 5 0 w this).bind fun q3 =>
  (chk 4 w q2).bind fun u4 =>
  (m_X5_push n w q2 q3).bind fun z5 =>
  (chk 5 z5 this).bind fun u6 =>
  (m_X6_letPass n z5 this a1).bind fun z7 =>
  some (z7.1, z7.2)
def m_X6_nextRandom (a0 : Int64) : Int64 :=
  (jrmL ((1103515245 * a0) + 12345) 2147483648)
def m_X6_placeIn (n : Nat) (w : Wd) (a0 : Int64) (a2 : Int32) : Option Int32 :=
  if a2 ≤ 0 then
    some 0
  else
    (remL (a0 / 65536) (Int32.toInt64 a2)).bind fun x1 =>
    some (Int64.toInt32 x1)
def m_X6_refusalOfScatter (a0 : Int32) (a1 : Int32) (a2 : Int32) (a3 : Int32) : Int32 :=
  if (m_X6_isId a0) = 0 then
    1
  else
    if (m_X6_inside a1 1 (24 - a0)) = 0 then
      2
    else
      if (m_X6_inside a2 1 64) = 0 then
        2
      else
        if (m_X6_inside a3 0 999999) = 0 then
          2
        else
          0
def m_X6_scatter_p83 (n : Nat) (w : Wd) (a0 : Nat) : Option (Int32 × Wd) :=
  (chk 5 w a0).bind fun u1 =>
  (m_X6_settle n w a0).bind fun z2 =>
  (gfR 5 0 z2.2 a0).bind fun q3 =>
  (chk 3 z2.2 q3).bind fun u4 =>
  (m_X4_count n z2.2 q3).bind fun x5 =>
  some (x5, z2.2)
def m_X6_scatter_p30 (n : Nat) : Nat → Wd → Nat → Int32 → Int32 → Int32 → Int64 → Int32 → Option (Int32 × Wd)
  | 0, _, _, _, _, _, _, _ => none
  | t + 1, w, a0, a1, a2, a3, a5, a7 =>
    if (a1 + a2) ≤ a7 then
      m_X6_scatter_p83 n w a0
    else
      (m_X6_placeIn n w (m_X6_nextRandom a5) a3).bind fun x1 =>
      (gfR 5 0 w a0).bind fun q2 =>
      (m_X6_placeIn n w (m_X6_nextRandom (m_X6_nextRandom a5)) a3).bind fun x3 =>
      (chk 3 w q2).bind fun u4 =>
      (m_X4_put n w q2 a7 x1 x3).bind fun z5 =>
      m_X6_scatter_p30 n t z5 a0 a1 a2 a3 (m_X6_nextRandom (m_X6_nextRandom a5)) (a7 + 1)
def m_X6_scatter (n : Nat) (w : Wd) (this : Nat) (a1 : Int32) (a2 : Int32) (a3 : Int32) (a4 : Int32) : Option (Int32 × Wd) :=
  (m_X6_throwIf n w (m_X6_refusalOfScatter a1 a2 a3 a4)).bind fun z1 =>
  (gfR 5 1 w this).bind fun q2 =>
  (gfR 5 0 w this).bind fun q3 =>
  (chk 4 w q2).bind fun u4 =>
  (m_X5_push n w q2 q3).bind fun z5 =>
  m_X6_scatter_p30 n n z5 this a1 a2 a3 (Int32.toInt64 a4) a1
def m_X6_refusalOfValue (a0 : Int32) (a1 : Int32) (a2 : Int32) (a3 : Int32) : Int32 :=
  if (m_X6_inside a0 0 (a1 - 1)) = 0 then
    1
  else
    if (m_X6_inside a2 0 a3) = 0 then
      2
    else
      0
def m_X6_point (n : Nat) (w : Wd) (this : Nat) (a1 : Int32) (a2 : Int32) : Option Int32 :=
  (m_X6_throwIf n w (m_X6_refusalOfValue a1 24 a2 5)).bind fun z1 =>
  if a2 = 0 then
    (gfR 5 0 w this).bind fun q3 =>
    (gfR 3 0 w q3).bind fun q4 =>
    (agI 1 w q4 a1).bind fun x5 =>
    if x5 = 0 then
      some 0
    else
      some 1
  else if a2 = 1 then
    (gfR 5 0 w this).bind fun q7 =>
    (gfR 3 1 w q7).bind fun q8 =>
    (agI 0 w q8 a1).bind fun x9 =>
    some x9
  else if a2 = 2 then
    (gfR 5 0 w this).bind fun q11 =>
    (gfR 3 2 w q11).bind fun q12 =>
    (agI 0 w q12 a1).bind fun x13 =>
    some x13
  else if a2 = 3 then
    (gfR 5 0 w this).bind fun q15 =>
    (gfR 3 3 w q15).bind fun q16 =>
    (agI 0 w q16 a1).bind fun x17 =>
    some x17
  else if a2 = 4 then
    (gfR 5 0 w this).bind fun q19 =>
    (gfR 3 4 w q19).bind fun q20 =>
    (agI 0 w q20 a1).bind fun x21 =>
    some x21
  else 
    (m_X6_heightOf n w a1).bind fun x22 =>
    some x22
def m_X6_level (n : Nat) (w : Wd) (this : Nat) (a1 : Int32) (a2 : Int32) : Option Int32 :=
  (m_X6_throwIf n w (m_X6_refusalOfValue a1 5 a2 4)).bind fun z1 =>
  (gfR 5 3 w this).bind fun q2 =>
  (gfR 0 0 w q2).bind fun q3 =>
  (agQ 3 w q3 a1).bind fun q4 =>
  if a2 = 0 then
    (gfI 1 1 w q4).bind fun x6 =>
    some x6
  else if a2 = 1 then
    (gfI 1 3 w q4).bind fun x8 =>
    some x8
  else if a2 = 2 then
    (chk 1 w q4).bind fun u10 =>
    (m_X1_greatestDepth n w q4).bind fun x11 =>
    some x11
  else if a2 = 3 then
    (chk 1 w q4).bind fun u13 =>
    (m_X1_positionChildren n w q4).bind fun x14 =>
    some x14
  else 
    (chk 1 w q4).bind fun u15 =>
    (m_X1_differentPositions n w q4).bind fun x16 =>
    some x16
def m_X6_refusalOfNode (n : Nat) (w : Wd) (this : Nat) (a1 : Int32) (a2 : Int32) (a3 : Int32) (a4 : Int32) : Option Int32 :=
  if (m_X6_inside a1 0 4) = 0 then
    some 1
  else
    (gfR 5 3 w this).bind fun q1 =>
    (gfR 0 0 w q1).bind fun q2 =>
    (agQ 3 w q2 a1).bind fun q3 =>
    (gfI 1 3 w q3).bind fun x4 =>
    some (m_X6_refusalOfValue a2 x4 a3 a4)
def m_X6_node (n : Nat) (w : Wd) (this : Nat) (a1 : Int32) (a2 : Int32) (a3 : Int32) : Option Int32 :=
  (chk 5 w this).bind fun u1 =>
  (m_X6_refusalOfNode n w this a1 a2 a3 5).bind fun x2 =>
  (m_X6_throwIf n w x2).bind fun z3 =>
  (gfR 5 3 w this).bind fun q4 =>
  (gfR 0 0 w q4).bind fun q5 =>
  (agQ 3 w q5 a1).bind fun q6 =>
  (gfR 1 2 w q6).bind fun q7 =>
  (agI 0 w q7 a2).bind fun x8 =>
  if a3 = 0 then
    some (m_X3_xOf (m_X3_corner x8))
  else if a3 = 1 then
    some (m_X3_yOf (m_X3_corner x8))
  else if a3 = 2 then
    some (m_X3_size x8)
  else if a3 = 3 then
    (chk 1 w q6).bind fun u13 =>
    (m_X1_depthOf n w q6 a2).bind fun x14 =>
    some x14
  else if a3 = 4 then
    (chk 1 w q6).bind fun u16 =>
    (m_X1_pointsIn n w q6 x8).bind fun x17 =>
    some x17
  else 
    (chk 1 w q6).bind fun u18 =>
    (m_X1_quadrantsIn n w q6 x8).bind fun x19 =>
    some x19
def m_X6_child (n : Nat) (w : Wd) (this : Nat) (a1 : Int32) (a2 : Int32) (a3 : Int32) : Option Int32 :=
  (chk 5 w this).bind fun u1 =>
  (m_X6_refusalOfNode n w this a1 a2 a3 3).bind fun x2 =>
  (m_X6_throwIf n w x2).bind fun z3 =>
  (gfR 5 3 w this).bind fun q4 =>
  (gfR 0 0 w q4).bind fun q5 =>
  (agQ 3 w q5 a1).bind fun q6 =>
  (chk 1 w q6).bind fun u7 =>
  (m_X1_childOf n w q6 a2 a3).bind fun x8 =>
  some x8
def m_X6_search (n : Nat) (w : Wd) (this : Nat) (a1 : Int32) (a2 : Int32) (a3 : Int32) (a4 : Int32) : Option Int32 :=
  if (m_X6_isPosition a1 a2) = 0 then
    (m_X6_throwIf n w 2).bind fun z1 =>
    (gfR 5 3 w this).bind fun q2 =>
    (chk 0 w q2).bind fun u3 =>
    (m_X0_find n w q2 a1 a2 a3).bind fun x4 =>
    if a4 = 0 then
      some (x4 / 32)
    else if a4 = 1 then
      some (jrm x4 32)
    else 
      (gfR 5 3 w this).bind fun q7 =>
      (gfR 0 0 w q7).bind fun q8 =>
      (agQ 3 w q8 0).bind fun q9 =>
      (gfR 1 2 w q9).bind fun q10 =>
      (agI 0 w q10 (jrm x4 32)).bind fun x11 =>
      some (m_X3_size x11)
  else
    if (m_X6_inside a4 0 2) = 0 then
      (m_X6_throwIf n w 2).bind fun z12 =>
      (gfR 5 3 w this).bind fun q13 =>
      (chk 0 w q13).bind fun u14 =>
      (m_X0_find n w q13 a1 a2 a3).bind fun x15 =>
      if a4 = 0 then
        some (x15 / 32)
      else if a4 = 1 then
        some (jrm x15 32)
      else 
        (gfR 5 3 w this).bind fun q18 =>
        (gfR 0 0 w q18).bind fun q19 =>
        (agQ 3 w q19 0).bind fun q20 =>
        (gfR 1 2 w q20).bind fun q21 =>
        (agI 0 w q21 (jrm x15 32)).bind fun x22 =>
        some (m_X3_size x22)
    else
      (m_X6_throwIf n w 0).bind fun z23 =>
      (gfR 5 3 w this).bind fun q24 =>
      (chk 0 w q24).bind fun u25 =>
      (m_X0_find n w q24 a1 a2 a3).bind fun x26 =>
      if a4 = 0 then
        some (x26 / 32)
      else if a4 = 1 then
        some (jrm x26 32)
      else 
        (gfR 5 3 w this).bind fun q29 =>
        (gfR 0 0 w q29).bind fun q30 =>
        (agQ 3 w q30 0).bind fun q31 =>
        (gfR 1 2 w q31).bind fun q32 =>
        (agI 0 w q32 (jrm x26 32)).bind fun x33 =>
        some (m_X3_size x33)
def m_X6_worst_p4 (n : Nat) : Nat → Wd → Nat → Int32 → Int32 → Int32 → Option Int32
  | 0, _, _, _, _, _ => none
  | t + 1, w, a0, a1, a2, a3 =>
    if 24 ≤ a3 then
      some a2
    else
      (gfR 5 0 w a0).bind fun q1 =>
      (gfR 3 0 w q1).bind fun q2 =>
      (agI 1 w q2 a3).bind fun x3 =>
      if x3 = 0 then
        m_X6_worst_p4 n t w a0 a1 a2 (a3 + 1)
      else
        (gfR 5 3 w a0).bind fun q4 =>
        (gfR 5 0 w a0).bind fun q5 =>
        (gfR 3 1 w q5).bind fun q6 =>
        (agI 0 w q6 a3).bind fun x7 =>
        (gfR 5 0 w a0).bind fun q8 =>
        (gfR 3 2 w q8).bind fun q9 =>
        (agI 0 w q9 a3).bind fun x10 =>
        (chk 0 w q4).bind fun u11 =>
        (m_X0_find n w q4 x7 x10 a1).bind fun x12 =>
        m_X6_worst_p4 n t w a0 a1 (mxI a2 (x12 / 32)) (a3 + 1)
def m_X6_worst (n : Nat) (w : Wd) (this : Nat) (a1 : Int32) : Option Int32 :=
  m_X6_worst_p4 n n w this a1 0 0
def m_X6_wouldTouch (n : Nat) (w : Wd) (this : Nat) (a1 : Int32) (a2 : Int32) (a3 : Int32) : Option (Int32 × Wd) :=
  (chk 5 w this).bind fun u1 =>
  (m_X6_refusalOfPlace n w this a1 a2 a3 1).bind fun x2 =>
  (m_X6_throwIf n w x2).bind fun z3 =>
  (gfR 5 0 w this).bind fun q4 =>
  (gfR 3 1 w q4).bind fun q5 =>
  (agI 0 w q5 a1).bind fun x6 =>
  (gfR 5 0 w this).bind fun q7 =>
  (gfR 3 2 w q7).bind fun q8 =>
  (agI 0 w q8 a1).bind fun x9 =>
  (gfR 5 0 w this).bind fun q10 =>
  (chk 3 w q10).bind fun u11 =>
  (m_X4_put n w q10 a1 a2 a3).bind fun z12 =>
  (gfR 5 4 z12 this).bind fun q13 =>
  (gfR 5 0 z12 this).bind fun q14 =>
  (chk 0 z12 q13).bind fun u15 =>
  (m_X0_plant n z12 q13 q14).bind fun z16 =>
  (gfR 5 0 z16 this).bind fun q17 =>
  (chk 3 z16 q17).bind fun u18 =>
  (m_X4_put n z16 q17 a1 x6 x9).bind fun z19 =>
  (gfR 5 3 z19 this).bind fun q20 =>
  (gfR 5 4 z19 this).bind fun q21 =>
  (chk 0 z19 q20).bind fun u22 =>
  (m_X0_differences n z19 q20 q21).bind fun x23 =>
  some (x23, z19)
def m_X6_refusalOfOpen (a0 : Int32) (a1 : Int32) (a2 : Int32) : Int32 :=
  if (m_X6_inside a0 0 3) = 0 then
    1
  else
    if (m_X6_isPosition a1 a2) = 0 then
      2
    else
      0
def m_X6_open (n : Nat) (w : Wd) (this : Nat) (a1 : Int32) (a2 : Int32) (a3 : Int32) : Option (Int32 × Wd) :=
  (m_X6_throwIf n w (m_X6_refusalOfOpen a1 a2 a3)).bind fun z1 =>
  (gfR 5 1 w this).bind fun q2 =>
  (gfR 5 0 w this).bind fun q3 =>
  (chk 4 w q2).bind fun u4 =>
  (m_X5_push n w q2 q3).bind fun z5 =>
  (gfR 5 0 z5 this).bind fun q6 =>
  (gfR 3 5 z5 q6).bind fun q7 =>
  (asI 0 z5 q7 a1 a2).bind fun w8 =>
  (gfR 5 0 w8 this).bind fun q9 =>
  (gfR 3 6 w8 q9).bind fun q10 =>
  (asI 0 w8 q10 a1 a3).bind fun w11 =>
  (gfR 5 0 w11 this).bind fun q12 =>
  (gfR 3 7 w11 q12).bind fun q13 =>
  (asI 0 w11 q13 a1 (-1)).bind fun w14 =>
  (gfR 5 0 w14 this).bind fun q15 =>
  (chk 3 w14 q15).bind fun u16 =>
  (m_X4_count n w14 q15).bind fun x17 =>
  some (x17, w14)
def m_X6_next (n : Nat) (w : Wd) (this : Nat) (a1 : Int32) : Option (Int32 × Wd) :=
  if (m_X6_inside a1 0 3) = 0 then
    (m_X6_throwIf n w 1).bind fun z1 =>
    (gfR 5 1 w this).bind fun q2 =>
    (gfR 5 0 w this).bind fun q3 =>
    (chk 4 w q2).bind fun u4 =>
    (m_X5_push n w q2 q3).bind fun z5 =>
    (gfR 5 0 z5 this).bind fun q6 =>
    (gfR 5 0 z5 this).bind fun q7 =>
    (gfR 3 7 z5 q7).bind fun q8 =>
    (agI 0 z5 q8 a1).bind fun x9 =>
    (gfR 5 0 z5 this).bind fun q10 =>
    (gfR 3 5 z5 q10).bind fun q11 =>
    (agI 0 z5 q11 a1).bind fun x12 =>
    (gfR 5 0 z5 this).bind fun q13 =>
    (gfR 3 6 z5 q13).bind fun q14 =>
    (agI 0 z5 q14 a1).bind fun x15 =>
    (chk 3 z5 q6).bind fun u16 =>
    (m_X4_pairAfter n z5 q6 x9 x12 x15).bind fun x17 =>
    if x17 = (-1) then
      some ((-1), z5)
    else
      (gfR 5 0 z5 this).bind fun q18 =>
      (gfR 3 7 z5 q18).bind fun q19 =>
      (asI 0 z5 q19 a1 x17).bind fun w20 =>
      some ((jrm x17 32), w20)
  else
    (m_X6_throwIf n w 0).bind fun z21 =>
    (gfR 5 1 w this).bind fun q22 =>
    (gfR 5 0 w this).bind fun q23 =>
    (chk 4 w q22).bind fun u24 =>
    (m_X5_push n w q22 q23).bind fun z25 =>
    (gfR 5 0 z25 this).bind fun q26 =>
    (gfR 5 0 z25 this).bind fun q27 =>
    (gfR 3 7 z25 q27).bind fun q28 =>
    (agI 0 z25 q28 a1).bind fun x29 =>
    (gfR 5 0 z25 this).bind fun q30 =>
    (gfR 3 5 z25 q30).bind fun q31 =>
    (agI 0 z25 q31 a1).bind fun x32 =>
    (gfR 5 0 z25 this).bind fun q33 =>
    (gfR 3 6 z25 q33).bind fun q34 =>
    (agI 0 z25 q34 a1).bind fun x35 =>
    (chk 3 z25 q26).bind fun u36 =>
    (m_X4_pairAfter n z25 q26 x29 x32 x35).bind fun x37 =>
    if x37 = (-1) then
      some ((-1), z25)
    else
      (gfR 5 0 z25 this).bind fun q38 =>
      (gfR 3 7 z25 q38).bind fun q39 =>
      (asI 0 z25 q39 a1 x37).bind fun w40 =>
      some ((jrm x37 32), w40)
def m_X6_cursor (n : Nat) (w : Wd) (this : Nat) (a1 : Int32) (a2 : Int32) : Option Int32 :=
  (m_X6_throwIf n w (m_X6_refusalOfValue a1 4 a2 5)).bind fun z1 =>
  (gfR 5 0 w this).bind fun q2 =>
  (gfR 3 5 w q2).bind fun q3 =>
  (agI 0 w q3 a1).bind fun x4 =>
  (gfR 5 0 w this).bind fun q5 =>
  (gfR 3 6 w q5).bind fun q6 =>
  (agI 0 w q6 a1).bind fun x7 =>
  (gfR 5 0 w this).bind fun q8 =>
  (gfR 3 7 w q8).bind fun q9 =>
  (agI 0 w q9 a1).bind fun x10 =>
  if a2 = 0 then
    some x4
  else if a2 = 1 then
    some x7
  else if a2 = 2 then
    if x10 = (-1) then
      some (-1)
    else
      some (x10 / 32)
  else if a2 = 3 then
    if x10 = (-1) then
      some (-1)
    else
      some (jrm x10 32)
  else if a2 = 4 then
    (gfR 5 0 w this).bind fun q16 =>
    (chk 3 w q16).bind fun u17 =>
    (m_X4_pairsAfter n w q16 x10 x4 x7).bind fun x18 =>
    some x18
  else 
    if x10 = (-1) then
      some 0
    else
      (gfR 5 3 w this).bind fun q19 =>
      (gfR 0 0 w q19).bind fun q20 =>
      (agQ 3 w q20 0).bind fun q21 =>
      (chk 1 w q21).bind fun u22 =>
      (m_X1_nodesWithin n w q21 (x10 / 32) x4 x7).bind fun x23 =>
      some x23
def m_X6_nearest_p48 (n : Nat) : Nat → Wd → Nat → Int32 → Int32 → Int32 → Int32 → Int32 → Option Int32
  | 0, _, _, _, _, _, _, _ => none
  | t + 1, w, a0, a1, a2, a3, a4, a5 =>
    if a3 ≤ a5 then
      some (jrm a4 32)
    else
      (gfR 5 0 w a0).bind fun q1 =>
      (chk 3 w q1).bind fun u2 =>
      (m_X4_pairAfter n w q1 a4 a1 a2).bind fun x3 =>
      m_X6_nearest_p48 n t w a0 a1 a2 a3 x3 (a5 + 1)
def m_X6_nearest (n : Nat) (w : Wd) (this : Nat) (a1 : Int32) (a2 : Int32) (a3 : Int32) : Option Int32 :=
  if (m_X6_isPosition a1 a2) = 0 then
    (m_X6_throwIf n w 2).bind fun z1 =>
    (gfR 5 0 w this).bind fun q2 =>
    (chk 3 w q2).bind fun u3 =>
    (m_X4_count n w q2).bind fun x4 =>
    if a3 < x4 then
      (gfR 5 0 w this).bind fun q5 =>
      (chk 3 w q5).bind fun u6 =>
      (m_X4_pairAfter n w q5 (-1) a1 a2).bind fun x7 =>
      m_X6_nearest_p48 n n w this a1 a2 a3 x7 0
    else
      some (-1)
  else
    if a3 < 0 then
      (m_X6_throwIf n w 2).bind fun z8 =>
      (gfR 5 0 w this).bind fun q9 =>
      (chk 3 w q9).bind fun u10 =>
      (m_X4_count n w q9).bind fun x11 =>
      if a3 < x11 then
        (gfR 5 0 w this).bind fun q12 =>
        (chk 3 w q12).bind fun u13 =>
        (m_X4_pairAfter n w q12 (-1) a1 a2).bind fun x14 =>
        m_X6_nearest_p48 n n w this a1 a2 a3 x14 0
      else
        some (-1)
    else
      (m_X6_throwIf n w 0).bind fun z15 =>
      (gfR 5 0 w this).bind fun q16 =>
      (chk 3 w q16).bind fun u17 =>
      (m_X4_count n w q16).bind fun x18 =>
      if a3 < x18 then
        (gfR 5 0 w this).bind fun q19 =>
        (chk 3 w q19).bind fun u20 =>
        (m_X4_pairAfter n w q19 (-1) a1 a2).bind fun x21 =>
        m_X6_nearest_p48 n n w this a1 a2 a3 x21 0
      else
        some (-1)
def m_X6_within_p31 (n : Nat) : Nat → Wd → Nat → Int32 → Int32 → Int32 → Int32 → Int32 → Int32 → Option Int32
  | 0, _, _, _, _, _, _, _, _ => none
  | t + 1, w, a0, a1, a2, a3, a4, a5, a6 =>
    if 24 ≤ a6 then
      some a5
    else
      (gfR 5 0 w a0).bind fun q1 =>
      (gfR 3 0 w q1).bind fun q2 =>
      (agI 1 w q2 a6).bind fun x3 =>
      if x3 = 0 then
        m_X6_within_p31 n t w a0 a1 a2 a3 a4 a5 (a6 + 1)
      else
        (gfR 5 0 w a0).bind fun q4 =>
        (gfR 3 1 w q4).bind fun q5 =>
        (agI 0 w q5 a6).bind fun x6 =>
        if (m_X6_inside x6 a1 a3) = 0 then
          m_X6_within_p31 n t w a0 a1 a2 a3 a4 a5 (a6 + 1)
        else
          (gfR 5 0 w a0).bind fun q7 =>
          (gfR 3 2 w q7).bind fun q8 =>
          (agI 0 w q8 a6).bind fun x9 =>
          if (m_X6_inside x9 a2 a4) = 0 then
            m_X6_within_p31 n t w a0 a1 a2 a3 a4 a5 (a6 + 1)
          else
            m_X6_within_p31 n t w a0 a1 a2 a3 a4 (a5 + 1) (a6 + 1)
def m_X6_within (n : Nat) (w : Wd) (this : Nat) (a1 : Int32) (a2 : Int32) (a3 : Int32) (a4 : Int32) : Option Int32 :=
  if (m_X6_isPosition a1 a2) = 0 then
    (m_X6_throwIf n w 2).bind fun z1 =>
    m_X6_within_p31 n n w this a1 a2 a3 a4 0 0
  else
    if (m_X6_isPosition a3 a4) = 0 then
      (m_X6_throwIf n w 2).bind fun z2 =>
      m_X6_within_p31 n n w this a1 a2 a3 a4 0 0
    else
      (m_X6_throwIf n w 0).bind fun z3 =>
      m_X6_within_p31 n n w this a1 a2 a3 a4 0 0
def m_X6_closest (n : Nat) (w : Wd) (this : Nat) (a1 : Int32) : Option Int32 :=
  if (m_X6_inside a1 0 2) = 0 then
    (m_X6_throwIf n w 2).bind fun z1 =>
    (gfR 5 0 w this).bind fun q2 =>
    (chk 3 w q2).bind fun u3 =>
    (m_X4_closestCouple n w q2).bind fun x4 =>
    if x4 = (-1) then
      some (-1)
    else
      if a1 = 0 then
        some (x4 / 1024)
      else if a1 = 1 then
        some (jrm (x4 / 32) 32)
      else 
        some (jrm x4 32)
  else
    (m_X6_throwIf n w 0).bind fun z7 =>
    (gfR 5 0 w this).bind fun q8 =>
    (chk 3 w q8).bind fun u9 =>
    (m_X4_closestCouple n w q8).bind fun x10 =>
    if x10 = (-1) then
      some (-1)
    else
      if a1 = 0 then
        some (x10 / 1024)
      else if a1 = 1 then
        some (jrm (x10 / 32) 32)
      else 
        some (jrm x10 32)
def m_X6_refusalOfByte (n : Nat) (w : Wd) (this : Nat) (a1 : Int32) : Option Int32 :=
  if (m_X6_inside a1 0 127) = 0 then
    some 2
  else
    (gfR 5 2 w this).bind fun q1 =>
    (gfI 2 1 w q1).bind fun x2 =>
    if 120 ≤ x2 then
      some 3
    else
      some 0
def m_X6_type (n : Nat) (w : Wd) (this : Nat) (a1 : Int32) : Option (Int32 × Wd) :=
  (chk 5 w this).bind fun u1 =>
  (m_X6_refusalOfByte n w this a1).bind fun x2 =>
  (m_X6_throwIf n w x2).bind fun z3 =>
  (gfR 5 2 w this).bind fun q4 =>
  (chk 2 w q4).bind fun u5 =>
  (m_X2_append n w q4 a1).bind fun z6 =>
  (gfR 5 2 z6 this).bind fun q7 =>
  (gfI 2 1 z6 q7).bind fun x8 =>
  some (x8, z6)
def m_X6_clearScript (n : Nat) (w : Wd) (this : Nat) : Option (Int32 × Wd) :=
  (gfR 5 2 w this).bind fun q1 =>
  (gfI 2 1 w q1).bind fun x2 =>
  (gfR 5 2 w this).bind fun q3 =>
  (pfV 2 1 w q3 (.int 0)).bind fun w4 =>
  some (x2, w4)
def m_X6_carryOut (n : Nat) (w : Wd) (this : Nat) (a1 : Int32) (a2 : Nat) : Option Wd :=
  if a1 = 0 then
    (agI 0 w a2 0).bind fun x2 =>
    (agI 0 w a2 1).bind fun x3 =>
    (agI 0 w a2 2).bind fun x4 =>
    (chk 5 w this).bind fun u5 =>
    (m_X6_place n w this x2 x3 x4).bind fun z6 =>
    some z6.2
  else if a1 = 1 then
    (agI 0 w a2 0).bind fun x8 =>
    (agI 0 w a2 1).bind fun x9 =>
    (agI 0 w a2 2).bind fun x10 =>
    (chk 5 w this).bind fun u11 =>
    (m_X6_place n w this x8 x9 x10).bind fun z12 =>
    some z12.2
  else if a1 = 2 then
    (agI 0 w a2 0).bind fun x14 =>
    (chk 5 w this).bind fun u15 =>
    (m_X6_takeOut n w this x14).bind fun z16 =>
    some z16.2
  else if a1 = 3 then
    (agI 0 w a2 0).bind fun x18 =>
    (agI 0 w a2 1).bind fun x19 =>
    (agI 0 w a2 2).bind fun x20 =>
    (chk 5 w this).bind fun u21 =>
    (m_X6_setSpeed n w this x18 x19 x20).bind fun z22 =>
    some z22
  else 
    (agI 0 w a2 0).bind fun x23 =>
    (chk 5 w this).bind fun u24 =>
    (m_X6_letPass n w this x23).bind fun z25 =>
    some z25.2
def m_X6_refusalOfCommand (n : Nat) (w : Wd) (this : Nat) (a1 : Int32) (a2 : Nat) : Option Int32 :=
  if a1 = 0 then
    (agI 0 w a2 0).bind fun x2 =>
    (agI 0 w a2 1).bind fun x3 =>
    (agI 0 w a2 2).bind fun x4 =>
    (chk 5 w this).bind fun u5 =>
    (m_X6_refusalOfPlace n w this x2 x3 x4 0).bind fun x6 =>
    some x6
  else if a1 = 1 then
    (agI 0 w a2 0).bind fun x8 =>
    (agI 0 w a2 1).bind fun x9 =>
    (agI 0 w a2 2).bind fun x10 =>
    (chk 5 w this).bind fun u11 =>
    (m_X6_refusalOfPlace n w this x8 x9 x10 1).bind fun x12 =>
    some x12
  else if a1 = 2 then
    (agI 0 w a2 0).bind fun x14 =>
    (chk 5 w this).bind fun u15 =>
    (m_X6_refusalOfDrop n w this x14).bind fun x16 =>
    some x16
  else if a1 = 3 then
    (agI 0 w a2 0).bind fun x18 =>
    (agI 0 w a2 1).bind fun x19 =>
    (agI 0 w a2 2).bind fun x20 =>
    (chk 5 w this).bind fun u21 =>
    (m_X6_refusalOfSpeed n w this x18 x19 x20).bind fun x22 =>
    some x22
  else 
    (agI 0 w a2 0).bind fun x23 =>
    some (m_X6_refusalOfTicks x23)
def m_X6_run_p38 (K : Nat → Nat) (n : Nat) : Nat → Wd → Nat → Int32 → Option (Int32 × Wd)
  | 0, _, _, _ => none
  | t + 1, w, a0, a2 =>
    if 120 ≤ a2 then
      some (a2, w)
    else
      (gfR 5 2 w a0).bind fun q1 =>
      (chk 2 w q1).bind fun u2 =>
      (m_X2_readCommand K n w q1).bind fun z3 =>
      if z3.1 = 0 then
        some (a2, z3.2)
      else
        (gfR 5 2 z3.2 a0).bind fun q4 =>
        (gfI 2 2 z3.2 q4).bind fun x5 =>
        (gfR 5 2 z3.2 a0).bind fun q6 =>
        (gfR 2 3 z3.2 q6).bind fun q7 =>
        (chk 5 z3.2 a0).bind fun u8 =>
        (m_X6_refusalOfCommand n z3.2 a0 x5 q7).bind fun x9 =>
        if x9 = 0 then
          (gfR 5 2 z3.2 a0).bind fun q10 =>
          (gfI 2 2 z3.2 q10).bind fun x11 =>
          (gfR 5 2 z3.2 a0).bind fun q12 =>
          (gfR 2 3 z3.2 q12).bind fun q13 =>
          (chk 5 z3.2 a0).bind fun u14 =>
          (m_X6_carryOut n z3.2 a0 x11 q13).bind fun z15 =>
          m_X6_run_p38 K n t z15 a0 (a2 + 1)
        else
          some (a2, z3.2)
def m_X6_run (K : Nat → Nat) (n : Nat) (w : Wd) (this : Nat) : Option (Int32 × Wd) :=
  (gfR 5 2 w this).bind fun q1 =>
  (chk 2 w q1).bind fun u2 =>
  (m_X2_findFault K n w q1).bind fun z3 =>
  if z3.1 = (-1) then
    (gfR 5 1 z3.2 this).bind fun q4 =>
    (gfR 5 0 z3.2 this).bind fun q5 =>
    (chk 4 z3.2 q4).bind fun u6 =>
    (m_X5_push n z3.2 q4 q5).bind fun z7 =>
    (gfR 5 2 z7 this).bind fun q8 =>
    (chk 2 z7 q8).bind fun u9 =>
    (m_X2_rewind n z7 q8).bind fun z10 =>
    m_X6_run_p38 K n n z10 this 0
  else
    some (((-10) - z3.1), z3.2)
def m_X6_time (n : Nat) (w : Wd) (this : Nat) : Option Int32 :=
  (gfR 5 0 w this).bind fun q1 =>
  (gfI 3 8 w q1).bind fun x2 =>
  some x2
def m_X6_undo (n : Nat) (w : Wd) (this : Nat) : Option (Int32 × Wd) :=
  (gfR 5 1 w this).bind fun q1 =>
  (gfI 4 2 w q1).bind fun x2 =>
  if x2 ≤ 0 then
    (m_X6_throwIf n w 3).bind fun z3 =>
    (gfR 5 1 w this).bind fun q4 =>
    (gfR 5 0 w this).bind fun q5 =>
    (chk 4 w q4).bind fun u6 =>
    (m_X5_pop n w q4 q5).bind fun z7 =>
    (gfR 5 3 z7 this).bind fun q8 =>
    (gfR 5 0 z7 this).bind fun q9 =>
    (chk 0 z7 q8).bind fun u10 =>
    (m_X0_plant n z7 q8 q9).bind fun z11 =>
    (gfR 5 1 z11 this).bind fun q12 =>
    (gfI 4 2 z11 q12).bind fun x13 =>
    some (x13, z11)
  else
    (m_X6_throwIf n w 0).bind fun z14 =>
    (gfR 5 1 w this).bind fun q15 =>
    (gfR 5 0 w this).bind fun q16 =>
    (chk 4 w q15).bind fun u17 =>
    (m_X5_pop n w q15 q16).bind fun z18 =>
    (gfR 5 3 z18 this).bind fun q19 =>
    (gfR 5 0 z18 this).bind fun q20 =>
    (chk 0 z18 q19).bind fun u21 =>
    (m_X0_plant n z18 q19 q20).bind fun z22 =>
    (gfR 5 1 z22 this).bind fun q23 =>
    (gfI 4 2 z22 q23).bind fun x24 =>
    some (x24, z22)
def m_X6_mixCursors_p14 (n : Nat) (k5 : Wd → Nat → Int64 → Int32 → Option Int64) : Nat → Wd → Nat → Int64 → Int32 → Int32 → Option Int64
  | 0, _, _, _, _, _ => none
  | t + 1, w, a0, a3, a5, a6 =>
    if 5 < a6 then
      k5 w a0 a3 (a5 + 1)
    else
      (chk 5 w a0).bind fun u1 =>
      (m_X6_cursor n w a0 a5 a6).bind fun x2 =>
      m_X6_mixCursors_p14 n k5 t w a0 ((31 * a3) + (Int32.toInt64 x2)) a5 (a6 + 1)
def m_X6_mixCursors_p5 (n : Nat) : Nat → Wd → Nat → Int64 → Int32 → Option Int64
  | 0, _, _, _, _ => none
  | t + 1, w, a0, a3, a5 =>
    if 4 ≤ a5 then
      some a3
    else
      m_X6_mixCursors_p14 n (fun w b0 b3 b5 => m_X6_mixCursors_p5 n t w b0 b3 b5) n w a0 a3 a5 0
def m_X6_mixCursors (n : Nat) (w : Wd) (this : Nat) (a1 : Int64) : Option Int64 :=
  m_X6_mixCursors_p5 n n w this a1 0
def m_X6_mixLevel_p92 (n : Nat) (k38 : Wd → Nat → Int32 → Int64 → Int32 → Option Int64) : Nat → Wd → Nat → Int32 → Int64 → Int32 → Int32 → Option Int64
  | 0, _, _, _, _, _, _ => none
  | t + 1, w, a0, a3, a4, a6, a7 =>
    if 4 ≤ a7 then
      k38 w a0 a3 a4 (a6 + 1)
    else
      (chk 5 w a0).bind fun u1 =>
      (m_X6_child n w a0 a3 a6 a7).bind fun x2 =>
      m_X6_mixLevel_p92 n k38 t w a0 a3 ((31 * a4) + (Int32.toInt64 x2)) a6 (a7 + 1)
def m_X6_mixLevel_p89 (n : Nat) (k38 : Wd → Nat → Int32 → Int64 → Int32 → Option Int64) (w : Wd) (a0 : Nat) (a3 : Int32) (a4 : Int64) (a6 : Int32) : Option Int64 :=
  m_X6_mixLevel_p92 n k38 n w a0 a3 a4 a6 0
def m_X6_mixLevel_p58 (n : Nat) (k38 : Wd → Nat → Int32 → Int64 → Int32 → Option Int64) : Nat → Wd → Nat → Int32 → Int64 → Int32 → Int32 → Option Int64
  | 0, _, _, _, _, _, _ => none
  | t + 1, w, a0, a3, a4, a6, a7 =>
    if 5 < a7 then
      m_X6_mixLevel_p89 n k38 w a0 a3 a4 a6
    else
      (chk 5 w a0).bind fun u1 =>
      (m_X6_node n w a0 a3 a6 a7).bind fun x2 =>
      m_X6_mixLevel_p58 n k38 t w a0 a3 ((31 * a4) + (Int32.toInt64 x2)) a6 (a7 + 1)
def m_X6_mixLevel_p38 (n : Nat) : Nat → Wd → Nat → Int32 → Int64 → Int32 → Option Int64
  | 0, _, _, _, _, _ => none
  | t + 1, w, a0, a3, a4, a6 =>
    (gfR 5 3 w a0).bind fun q1 =>
    (gfR 0 0 w q1).bind fun q2 =>
    (agQ 3 w q2 a3).bind fun q3 =>
    (gfI 1 3 w q3).bind fun x4 =>
    if x4 ≤ a6 then
      some a4
    else
      m_X6_mixLevel_p58 n (fun w b0 b3 b4 b6 => m_X6_mixLevel_p38 n t w b0 b3 b4 b6) n w a0 a3 a4 a6 0
def m_X6_mixLevel_p35 (n : Nat) (w : Wd) (a0 : Nat) (a3 : Int32) (a4 : Int64) : Option Int64 :=
  m_X6_mixLevel_p38 n n w a0 a3 a4 0
def m_X6_mixLevel_p6 (n : Nat) : Nat → Wd → Nat → Int32 → Int64 → Int32 → Option Int64
  | 0, _, _, _, _, _ => none
  | t + 1, w, a0, a3, a4, a6 =>
    if 4 < a6 then
      m_X6_mixLevel_p35 n w a0 a3 a4
    else
      (chk 5 w a0).bind fun u1 =>
      (m_X6_level n w a0 a3 a6).bind fun x2 =>
      m_X6_mixLevel_p6 n t w a0 a3 ((31 * a4) + (Int32.toInt64 x2)) (a6 + 1)
def m_X6_mixLevel (n : Nat) (w : Wd) (this : Nat) (a1 : Int64) (a3 : Int32) : Option Int64 :=
  m_X6_mixLevel_p6 n n w this a3 a1 0
def m_X6_mixPoints_p15 (n : Nat) (k5 : Wd → Nat → Int64 → Int32 → Option Int64) : Nat → Wd → Nat → Int64 → Int32 → Int32 → Option Int64
  | 0, _, _, _, _, _ => none
  | t + 1, w, a0, a3, a5, a6 =>
    if 5 < a6 then
      k5 w a0 a3 (a5 + 1)
    else
      (chk 5 w a0).bind fun u1 =>
      (m_X6_point n w a0 a5 a6).bind fun x2 =>
      m_X6_mixPoints_p15 n k5 t w a0 ((31 * a3) + (Int32.toInt64 x2)) a5 (a6 + 1)
def m_X6_mixPoints_p5 (n : Nat) : Nat → Wd → Nat → Int64 → Int32 → Option Int64
  | 0, _, _, _, _ => none
  | t + 1, w, a0, a3, a5 =>
    if 24 ≤ a5 then
      some a3
    else
      m_X6_mixPoints_p15 n (fun w b0 b3 b5 => m_X6_mixPoints_p5 n t w b0 b3 b5) n w a0 a3 a5 0
def m_X6_mixPoints (n : Nat) (w : Wd) (this : Nat) (a1 : Int64) : Option Int64 :=
  m_X6_mixPoints_p5 n n w this a1 0
def m_X6_digest_p106 (n : Nat) : Nat → Wd → Nat → Int64 → Int32 → Option Int64
  | 0, _, _, _, _ => none
  | t + 1, w, a0, a1, a3 =>
    if 2 < a3 then
      some a1
    else
      (chk 5 w a0).bind fun u1 =>
      (m_X6_closest n w a0 a3).bind fun x2 =>
      m_X6_digest_p106 n t w a0 ((31 * a1) + (Int32.toInt64 x2)) (a3 + 1)
def m_X6_digest_p72 (n : Nat) (w : Wd) (a0 : Nat) (a1 : Int64) : Option Int64 :=
  (chk 5 w a0).bind fun u1 =>
  (m_X6_worst n w a0 1).bind fun x2 =>
  (chk 5 w a0).bind fun u3 =>
  (m_X6_worst n w a0 0).bind fun x4 =>
  (chk 5 w a0).bind fun u5 =>
  (m_X6_mixCursors n w a0 ((31 * ((31 * a1) + (Int32.toInt64 x2))) + (Int32.toInt64 x4))).bind fun z6 =>
  m_X6_digest_p106 n n w a0 z6 0
def m_X6_digest_p54 (n : Nat) : Nat → Wd → Nat → Int64 → Int32 → Option Int64
  | 0, _, _, _, _ => none
  | t + 1, w, a0, a1, a3 =>
    if 5 ≤ a3 then
      m_X6_digest_p72 n w a0 a1
    else
      (chk 5 w a0).bind fun u1 =>
      (m_X6_mixLevel n w a0 a1 a3).bind fun z2 =>
      m_X6_digest_p54 n t w a0 z2 (a3 + 1)
def m_X6_digest (n : Nat) (w : Wd) (this : Nat) : Option Int64 :=
  (gfR 5 1 w this).bind fun q1 =>
  (gfI 4 2 w q1).bind fun x2 =>
  (gfR 5 2 w this).bind fun q3 =>
  (gfI 2 1 w q3).bind fun x4 =>
  (chk 5 w this).bind fun u5 =>
  (m_X6_time n w this).bind fun x6 =>
  nm1 (α := Int64) ((31 * ((31 * ((31 * 19606) + (Int32.toInt64 x2))) + (Int32.toInt64 x4))) + (Int32.toInt64 x6)) fun y7 =>
  (chk 5 w this).bind fun u8 =>
  (m_X6_mixPoints n w this y7).bind fun z9 =>
  m_X6_digest_p54 n n w this z9 0
def m_X7_thrown (n : Nat) (w : Wd) (this : Nat) : Option Int32 :=
  (gfI 6 4 w this).bind fun x1 =>
  some x1
def m_X7_refused (n : Nat) (w : Wd) (this : Nat) (a1 : Int32) : Option (Int32 × Wd) :=
  (pfV 6 4 w this (.int a1)).bind fun w1 =>
  if a1 ≤ 0 then
    some (0, w1)
  else
    some (1, w1)
def m_X7_in (a0 : Int32) (a1 : Int32) (a2 : Int32) : Int32 :=
  if a0 < a1 then
    0
  else
    if a2 < a0 then
      0
    else
      1
def m_X7_isId (a0 : Int32) : Int32 :=
  (m_X7_in a0 0 23)
def m_X7_isPlace (a0 : Int32) (a1 : Int32) : Int32 :=
  if (m_X7_in a0 0 63) = 0 then
    0
  else
    if (m_X7_in a1 0 63) = 0 then
      0
    else
      1
def m_X7_isThere (n : Nat) (w : Wd) (this : Nat) (a1 : Int32) : Option Int32 :=
  (gfR 6 0 w this).bind fun q1 =>
  (agI 0 w q1 (5 * a1)).bind fun x2 =>
  if x2 = 1 then
    some 1
  else
    some 0
def m_X7_heightOf_p6 (n : Nat) : Nat → Wd → Int32 → Int32 → Option Int32
  | 0, _, _, _ => none
  | t + 1, w, a1, a2 =>
    if (jrm a2 2) = 0 then
      m_X7_heightOf_p6 n t w (a1 + 1) (a2 / 2)
    else
      some a1
def m_X7_heightOf (n : Nat) (w : Wd) (a0 : Int32) : Option Int32 :=
  m_X7_heightOf_p6 n n w 0 (a0 + 1)
def m_X7_isOn (n : Nat) (w : Wd) (this : Nat) (a1 : Int32) (a2 : Int32) : Option Int32 :=
  (chk 6 w this).bind fun u1 =>
  (m_X7_isThere n w this a1).bind fun x2 =>
  if x2 = 0 then
    some 0
  else
    (m_X7_heightOf n w a1).bind fun x3 =>
    if x3 < a2 then
      some 0
    else
      some 1
def m_X7_saves_p85 (n : Nat) (w : Wd) (a0 : Nat) : Option Wd :=
  (gfI 6 3 w a0).bind fun x1 =>
  (pfV 6 3 w a0 (.int (x1 + 1))).bind fun w2 =>
  some w2
def m_X7_saves_p51 (n : Nat) : Nat → Wd → Nat → Int32 → Option Wd
  | 0, _, _, _ => none
  | t + 1, w, a0, a1 =>
    if 141 ≤ a1 then
      m_X7_saves_p85 n w a0
    else
      (gfR 6 1 w a0).bind fun q1 =>
      (gfI 6 3 w a0).bind fun x2 =>
      (gfR 6 0 w a0).bind fun q3 =>
      (agI 0 w q3 a1).bind fun x4 =>
      (asI 0 w q1 ((141 * x2) + a1) x4).bind fun w5 =>
      m_X7_saves_p51 n t w5 a0 (a1 + 1)
def m_X7_saves_p39 (n : Nat) (w : Wd) (a0 : Nat) : Option Wd :=
  (gfI 6 3 w a0).bind fun x1 =>
  (pfV 6 3 w a0 (.int (x1 - 1))).bind fun w2 =>
  m_X7_saves_p51 n n w2 a0 0
def m_X7_saves_p10 (n : Nat) : Nat → Wd → Nat → Int32 → Option Wd
  | 0, _, _, _ => none
  | t + 1, w, a0, a1 =>
    if 423 ≤ a1 then
      m_X7_saves_p39 n w a0
    else
      (gfR 6 1 w a0).bind fun q1 =>
      (gfR 6 1 w a0).bind fun q2 =>
      (agI 0 w q2 (a1 + 141)).bind fun x3 =>
      (asI 0 w q1 a1 x3).bind fun w4 =>
      m_X7_saves_p10 n t w4 a0 (a1 + 1)
def m_X7_saves (n : Nat) (w : Wd) (this : Nat) : Option Wd :=
  (gfI 6 3 w this).bind fun x1 =>
  if x1 = 4 then
    m_X7_saves_p10 n n w this 0
  else
    m_X7_saves_p51 n n w this 0
def m_X7_undo_p33 (n : Nat) : Nat → Wd → Nat → Int32 → Option (Int32 × Wd)
  | 0, _, _, _ => none
  | t + 1, w, a0, a1 =>
    if 141 ≤ a1 then
      (gfI 6 3 w a0).bind fun x1 =>
      some (x1, w)
    else
      (gfR 6 0 w a0).bind fun q2 =>
      (gfR 6 1 w a0).bind fun q3 =>
      (gfI 6 3 w a0).bind fun x4 =>
      (agI 0 w q3 ((141 * x4) + a1)).bind fun x5 =>
      (asI 0 w q2 a1 x5).bind fun w6 =>
      m_X7_undo_p33 n t w6 a0 (a1 + 1)
def m_X7_undo (n : Nat) (w : Wd) (this : Nat) : Option (Int32 × Wd) :=
  (gfI 6 3 w this).bind fun x1 =>
  if x1 = 0 then
    (chk 6 w this).bind fun u6 =>
    (m_X7_refused n w this 1).bind fun z7 =>
    if z7.1 = 0 then
      (gfI 6 3 z7.2 this).bind fun x8 =>
      (pfV 6 3 z7.2 this (.int (x8 - 1))).bind fun w9 =>
      m_X7_undo_p33 n n w9 this 0
    else
      some (0, z7.2)
  else
    (chk 6 w this).bind fun u2 =>
    (m_X7_refused n w this 0).bind fun z3 =>
    if z3.1 = 0 then
      (gfI 6 3 z3.2 this).bind fun x4 =>
      (pfV 6 3 z3.2 this (.int (x4 - 1))).bind fun w5 =>
      m_X7_undo_p33 n n w5 this 0
    else
      some (0, z3.2)
def m_X7_codeOf_p4 (n : Nat) : Nat → Wd → Int32 → Int32 → Int32 → Int32 → Option Int32
  | 0, _, _, _, _, _ => none
  | t + 1, w, a0, a1, a2, a3 =>
    if 6 ≤ a3 then
      some a2
    else
      nm1 (α := Int32) (a2 ||| ((((a0 >>> (a3 &&& 31 : Int32)) &&& 1) <<< ((2 * a3) &&& 31 : Int32)) ||| (((a1 >>> (a3 &&& 31 : Int32)) &&& 1) <<< (((2 * a3) + 1) &&& 31 : Int32)))) fun y1 =>
      m_X7_codeOf_p4 n t w a0 a1 y1 (a3 + 1)
def m_X7_codeOf (n : Nat) (w : Wd) (a0 : Int32) (a1 : Int32) : Option Int32 :=
  m_X7_codeOf_p4 n n w a0 a1 0 0
def m_X7_xOf_p4 (n : Nat) : Nat → Wd → Int32 → Int32 → Int32 → Option Int32
  | 0, _, _, _, _ => none
  | t + 1, w, a0, a1, a2 =>
    if 6 ≤ a2 then
      some a1
    else
      m_X7_xOf_p4 n t w a0 (a1 ||| (((a0 >>> ((2 * a2) &&& 31 : Int32)) &&& 1) <<< (a2 &&& 31 : Int32))) (a2 + 1)
def m_X7_xOf (n : Nat) (w : Wd) (a0 : Int32) : Option Int32 :=
  m_X7_xOf_p4 n n w a0 0 0
def m_X7_yOf (n : Nat) (w : Wd) (a0 : Int32) : Option Int32 :=
  (m_X7_xOf n w (a0 >>> (1 &&& 31 : Int32))).bind fun x1 =>
  some x1
def m_X7_placeOf (n : Nat) (w : Wd) (this : Nat) (a1 : Int32) : Option Int32 :=
  (gfR 6 0 w this).bind fun q1 =>
  (agI 0 w q1 ((5 * a1) + 1)).bind fun x2 =>
  (gfR 6 0 w this).bind fun q3 =>
  (agI 0 w q3 ((5 * a1) + 2)).bind fun x4 =>
  (m_X7_codeOf n w x2 x4).bind fun x5 =>
  some x5
def m_X7_spanOf_p2 (n : Nat) : Nat → Wd → Int32 → Int32 → Int32 → Option Int32
  | 0, _, _, _, _ => none
  | t + 1, w, a0, a1, a2 =>
    if (a0 >>> ((2 * a2) &&& 31 : Int32)) = (a1 >>> ((2 * a2) &&& 31 : Int32)) then
      some a2
    else
      m_X7_spanOf_p2 n t w a0 a1 (a2 + 1)
def m_X7_spanOf (n : Nat) (w : Wd) (a0 : Int32) (a1 : Int32) : Option Int32 :=
  m_X7_spanOf_p2 n n w a0 a1 0
def m_X7_enters_p95 (n : Nat) (w : Wd) (a0 : Nat) (a1 : Int32) (a2 : Int32) (a3 : Int32) : Option Wd :=
  (gfR 6 7 w a0).bind fun q1 =>
  (asI 0 w q1 ((32 * a1) + a3) a2).bind fun w2 =>
  (gfR 6 8 w2 a0).bind fun q3 =>
  (agI 0 w2 q3 a1).bind fun x4 =>
  (asI 0 w2 q3 a1 (x4 + 1)).bind fun w5 =>
  some w5
def m_X7_enters_p44 (n : Nat) : Nat → Wd → Nat → Int32 → Int32 → Int32 → Option Wd
  | 0, _, _, _, _, _ => none
  | t + 1, w, a0, a1, a2, a3 =>
    if a3 ≤ 0 then
      m_X7_enters_p95 n w a0 a1 a2 a3
    else
      (gfR 6 7 w a0).bind fun q1 =>
      (agI 0 w q1 (((32 * a1) + a3) - 1)).bind fun x2 =>
      if x2 ≤ a2 then
        m_X7_enters_p95 n w a0 a1 a2 a3
      else
        (gfR 6 7 w a0).bind fun q3 =>
        (gfR 6 7 w a0).bind fun q4 =>
        (agI 0 w q4 (((32 * a1) + a3) - 1)).bind fun x5 =>
        (asI 0 w q3 ((32 * a1) + a3) x5).bind fun w6 =>
        m_X7_enters_p44 n t w6 a0 a1 a2 (a3 + (-1))
def m_X7_enters_p10 (n : Nat) : Nat → Wd → Nat → Int32 → Int32 → Int32 → Int32 → Option Wd
  | 0, _, _, _, _, _, _ => none
  | t + 1, w, a0, a1, a2, a3, a4 =>
    (gfR 6 8 w a0).bind fun q1 =>
    (agI 0 w q1 a1).bind fun x2 =>
    if x2 ≤ a4 then
      m_X7_enters_p44 n n w a0 a1 a2 a3
    else
      (gfR 6 7 w a0).bind fun q3 =>
      (agI 0 w q3 ((32 * a1) + a4)).bind fun x4 =>
      if x4 = a2 then
        some w
      else
        m_X7_enters_p10 n t w a0 a1 a2 a3 (a4 + 1)
def m_X7_enters (n : Nat) (w : Wd) (this : Nat) (a1 : Int32) (a2 : Int32) : Option Wd :=
  (gfR 6 8 w this).bind fun q1 =>
  (agI 0 w q1 a1).bind fun x2 =>
  m_X7_enters_p10 n n w this a1 a2 x2 0
def m_X7_firstOf (a0 : Int32) : Int32 :=
  (a0 / 8)
def m_X7_span (a0 : Int32) : Int32 :=
  (6 - (jrm a0 8))
def m_X7_holds (a0 : Int32) (a1 : Int32) : Int32 :=
  if ((m_X7_firstOf a0) >>> ((2 * (m_X7_span a0)) &&& 31 : Int32)) = (a1 >>> ((2 * (m_X7_span a0)) &&& 31 : Int32)) then
    1
  else
    0
def m_X7_lays_p30 (n : Nat) (k2 : Wd → Nat → Int32 → Option Wd) (k22 : Wd → Nat → Int32 → Int32 → Option Wd) : Nat → Wd → Nat → Int32 → Int32 → Int32 → Option Wd
  | 0, _, _, _, _, _ => none
  | t + 1, w, a0, a1, a2, a3 =>
    if a2 ≤ a3 then
      k22 w a0 a1 (a2 + 1)
    else
      (chk 6 w a0).bind fun u1 =>
      (m_X7_isOn n w a0 a2 a1).bind fun x2 =>
      if x2 = 0 then
        k22 w a0 a1 (a2 + 1)
      else
        (chk 6 w a0).bind fun u3 =>
        (m_X7_placeOf n w a0 a2).bind fun x4 =>
        (chk 6 w a0).bind fun u5 =>
        (m_X7_isOn n w a0 a3 a1).bind fun x6 =>
        if x6 = 0 then
          if x4 = x4 then
            m_X7_lays_p30 n k2 k22 t w a0 a1 a2 (a3 + 1)
          else
            (m_X7_spanOf n w x4 x4).bind fun x7 =>
            (chk 6 w a0).bind fun u8 =>
            (m_X7_enters n w a0 a1 (((8 * ((x4 >>> ((2 * x7) &&& 31 : Int32)) <<< ((2 * x7) &&& 31 : Int32))) + 6) - x7)).bind fun z9 =>
            m_X7_lays_p30 n k2 k22 t z9 a0 a1 a2 (a3 + 1)
        else
          (chk 6 w a0).bind fun u10 =>
          (m_X7_placeOf n w a0 a3).bind fun x11 =>
          if x4 = x11 then
            m_X7_lays_p30 n k2 k22 t w a0 a1 a2 (a3 + 1)
          else
            (m_X7_spanOf n w x4 x11).bind fun x12 =>
            (chk 6 w a0).bind fun u13 =>
            (m_X7_enters n w a0 a1 (((8 * ((x4 >>> ((2 * x12) &&& 31 : Int32)) <<< ((2 * x12) &&& 31 : Int32))) + 6) - x12)).bind fun z14 =>
            m_X7_lays_p30 n k2 k22 t z14 a0 a1 a2 (a3 + 1)
def m_X7_lays_p22 (n : Nat) (k2 : Wd → Nat → Int32 → Option Wd) : Nat → Wd → Nat → Int32 → Int32 → Option Wd
  | 0, _, _, _, _ => none
  | t + 1, w, a0, a1, a2 =>
    if 24 ≤ a2 then
      k2 w a0 (a1 + 1)
    else
      m_X7_lays_p30 n k2 (fun w b0 b1 b2 => m_X7_lays_p22 n k2 t w b0 b1 b2) n w a0 a1 a2 0
def m_X7_lays_p2 (n : Nat) : Nat → Wd → Nat → Int32 → Option Wd
  | 0, _, _, _ => none
  | t + 1, w, a0, a1 =>
    if 5 ≤ a1 then
      some w
    else
      (gfR 6 8 w a0).bind fun q1 =>
      (asI 0 w q1 a1 0).bind fun w2 =>
      (chk 6 w2 a0).bind fun u3 =>
      (m_X7_enters n w2 a0 a1 0).bind fun z4 =>
      m_X7_lays_p22 n (fun w b0 b1 => m_X7_lays_p2 n t w b0 b1) n z4 a0 a1 0
def m_X7_lays (n : Nat) (w : Wd) (this : Nat) : Option Wd :=
  m_X7_lays_p2 n n w this 0
def m_X7_nodeAt (n : Nat) (w : Wd) (this : Nat) (a1 : Int32) (a2 : Int32) : Option Int32 :=
  (gfR 6 7 w this).bind fun q1 =>
  (agI 0 w q1 ((32 * a1) + a2)).bind fun x2 =>
  some x2
def m_X7_indexOf_p2 (n : Nat) : Nat → Wd → Nat → Int32 → Int32 → Int32 → Option Int32
  | 0, _, _, _, _, _ => none
  | t + 1, w, a0, a1, a2, a3 =>
    (chk 6 w a0).bind fun u1 =>
    (m_X7_nodeAt n w a0 a1 a3).bind fun x2 =>
    if x2 = a2 then
      some a3
    else
      m_X7_indexOf_p2 n t w a0 a1 a2 (a3 + 1)
def m_X7_indexOf (n : Nat) (w : Wd) (this : Nat) (a1 : Int32) (a2 : Int32) : Option Int32 :=
  m_X7_indexOf_p2 n n w this a1 a2 0
def m_X7_isNode_p5 (n : Nat) : Nat → Wd → Nat → Int32 → Int32 → Int32 → Int32 → Option Int32
  | 0, _, _, _, _, _, _ => none
  | t + 1, w, a0, a1, a2, a3, a4 =>
    (gfR 6 8 w a0).bind fun q1 =>
    (agI 0 w q1 a1).bind fun x2 =>
    if x2 ≤ a4 then
      (bck a3).bind fun u3 =>
      some a3
    else
      if a3 = 0 then
        (chk 6 w a0).bind fun u4 =>
        (m_X7_nodeAt n w a0 a1 a4).bind fun x5 =>
        if x5 = a2 then
          m_X7_isNode_p5 n t w a0 a1 a2 1 (a4 + 1)
        else
          m_X7_isNode_p5 n t w a0 a1 a2 0 (a4 + 1)
      else
        m_X7_isNode_p5 n t w a0 a1 a2 1 (a4 + 1)
def m_X7_isNode (n : Nat) (w : Wd) (this : Nat) (a1 : Int32) (a2 : Int32) : Option Int32 :=
  m_X7_isNode_p5 n n w this a1 a2 0 0
def m_X7_laysBefore_p33 (n : Nat) : Nat → Wd → Nat → Int32 → Option Wd
  | 0, _, _, _ => none
  | t + 1, w, a0, a1 =>
    if 5 ≤ a1 then
      some w
    else
      (gfR 6 10 w a0).bind fun q1 =>
      (gfR 6 8 w a0).bind fun q2 =>
      (agI 0 w q2 a1).bind fun x3 =>
      (asI 0 w q1 a1 x3).bind fun w4 =>
      m_X7_laysBefore_p33 n t w4 a0 (a1 + 1)
def m_X7_laysBefore_p31 (n : Nat) (w : Wd) (a0 : Nat) : Option Wd :=
  m_X7_laysBefore_p33 n n w a0 0
def m_X7_laysBefore_p6 (n : Nat) : Nat → Wd → Nat → Int32 → Option Wd
  | 0, _, _, _ => none
  | t + 1, w, a0, a1 =>
    if 160 ≤ a1 then
      m_X7_laysBefore_p31 n w a0
    else
      (gfR 6 9 w a0).bind fun q1 =>
      (gfR 6 7 w a0).bind fun q2 =>
      (agI 0 w q2 a1).bind fun x3 =>
      (asI 0 w q1 a1 x3).bind fun w4 =>
      m_X7_laysBefore_p6 n t w4 a0 (a1 + 1)
def m_X7_laysBefore (n : Nat) (w : Wd) (this : Nat) : Option Wd :=
  (chk 6 w this).bind fun u1 =>
  (m_X7_lays n w this).bind fun z2 =>
  m_X7_laysBefore_p6 n n z2 this 0
def m_X7_touched_p63 (n : Nat) (k8 : Wd → Nat → Int32 → Int32 → Option (Int32 × Wd)) (w : Wd) (a0 : Nat) (a1 : Int32) (a2 : Int32) (a3 : Int32) : Option (Int32 × Wd) :=
  (gfR 6 10 w a0).bind fun q1 =>
  (agI 0 w q1 a2).bind fun x2 =>
  (gfR 6 8 w a0).bind fun q3 =>
  (agI 0 w q3 a2).bind fun x4 =>
  k8 w a0 (a1 + ((x2 + x4) - (2 * a3))) (a2 + 1)
def m_X7_touched_p18 (n : Nat) (k8 : Wd → Nat → Int32 → Int32 → Option (Int32 × Wd)) : Nat → Wd → Nat → Int32 → Int32 → Int32 → Int32 → Option (Int32 × Wd)
  | 0, _, _, _, _, _, _ => none
  | t + 1, w, a0, a1, a2, a3, a4 =>
    (gfR 6 10 w a0).bind fun q1 =>
    (agI 0 w q1 a2).bind fun x2 =>
    if x2 ≤ a4 then
      m_X7_touched_p63 n k8 w a0 a1 a2 a3
    else
      (gfR 6 9 w a0).bind fun q3 =>
      (agI 0 w q3 ((32 * a2) + a4)).bind fun x4 =>
      (chk 6 w a0).bind fun u5 =>
      (m_X7_isNode n w a0 a2 x4).bind fun x6 =>
      if x6 = 0 then
        m_X7_touched_p18 n k8 t w a0 a1 a2 (a3 + 0) (a4 + 1)
      else
        m_X7_touched_p18 n k8 t w a0 a1 a2 (a3 + 1) (a4 + 1)
def m_X7_touched_p8 (n : Nat) : Nat → Wd → Nat → Int32 → Int32 → Option (Int32 × Wd)
  | 0, _, _, _, _ => none
  | t + 1, w, a0, a1, a2 =>
    if 5 ≤ a2 then
      some (a1, w)
    else
      m_X7_touched_p18 n (fun w b0 b1 b2 => m_X7_touched_p8 n t w b0 b1 b2) n w a0 a1 a2 0 0
def m_X7_touched (n : Nat) (w : Wd) (this : Nat) : Option (Int32 × Wd) :=
  (chk 6 w this).bind fun u1 =>
  (m_X7_lays n w this).bind fun z2 =>
  m_X7_touched_p8 n n z2 this 0 0
def m_X7_badAdd (n : Nat) (w : Wd) (this : Nat) (a1 : Int32) (a2 : Int32) (a3 : Int32) : Option Int32 :=
  if (m_X7_isId a1) = 0 then
    some 1
  else
    if (m_X7_isPlace a2 a3) = 0 then
      some 2
    else
      (chk 6 w this).bind fun u1 =>
      (m_X7_isThere n w this a1).bind fun x2 =>
      if x2 = 0 then
        some 0
      else
        some 3
def m_X7_puts (n : Nat) (w : Wd) (this : Nat) (a1 : Int32) (a2 : Int32) (a3 : Int32) : Option Wd :=
  (gfR 6 0 w this).bind fun q1 =>
  (agI 0 w q1 (5 * a1)).bind fun x2 =>
  if x2 = 0 then
    (gfR 6 0 w this).bind fun q9 =>
    (asI 0 w q9 ((5 * a1) + 3) 0).bind fun w10 =>
    (gfR 6 0 w10 this).bind fun q11 =>
    (asI 0 w10 q11 ((5 * a1) + 4) 0).bind fun w12 =>
    (gfR 6 0 w12 this).bind fun q13 =>
    (asI 0 w12 q13 (5 * a1) 1).bind fun w14 =>
    (gfR 6 0 w14 this).bind fun q15 =>
    (asI 0 w14 q15 ((5 * a1) + 1) a2).bind fun w16 =>
    (gfR 6 0 w16 this).bind fun q17 =>
    (asI 0 w16 q17 ((5 * a1) + 2) a3).bind fun w18 =>
    some w18
  else
    (gfR 6 0 w this).bind fun q3 =>
    (asI 0 w q3 (5 * a1) 1).bind fun w4 =>
    (gfR 6 0 w4 this).bind fun q5 =>
    (asI 0 w4 q5 ((5 * a1) + 1) a2).bind fun w6 =>
    (gfR 6 0 w6 this).bind fun q7 =>
    (asI 0 w6 q7 ((5 * a1) + 2) a3).bind fun w8 =>
    some w8
def m_X7_adds (n : Nat) (w : Wd) (this : Nat) (a1 : Int32) (a2 : Int32) (a3 : Int32) : Option (Int32 × Wd) :=
  (chk 6 w this).bind fun u1 =>
  (m_X7_laysBefore n w this).bind fun z2 =>
  (chk 6 z2 this).bind fun u3 =>
  (m_X7_puts n z2 this a1 a2 a3).bind fun z4 =>
  (chk 6 z4 this).bind fun u5 =>
  (m_X7_touched n z4 this).bind fun z6 =>
  some (z6.1, z6.2)
def m_X7_add (n : Nat) (w : Wd) (this : Nat) (a1 : Int32) (a2 : Int32) (a3 : Int32) : Option (Int32 × Wd) :=
  (chk 6 w this).bind fun u1 =>
  (m_X7_badAdd n w this a1 a2 a3).bind fun x2 =>
  (chk 6 w this).bind fun u3 =>
  (m_X7_refused n w this x2).bind fun z4 =>
  if z4.1 = 0 then
    (chk 6 z4.2 this).bind fun u5 =>
    (m_X7_saves n z4.2 this).bind fun z6 =>
    (chk 6 z6 this).bind fun u7 =>
    (m_X7_adds n z6 this a1 a2 a3).bind fun z8 =>
    some (z8.1, z8.2)
  else
    some (0, z4.2)
def m_X7_badMove (n : Nat) (w : Wd) (this : Nat) (a1 : Int32) (a2 : Int32) (a3 : Int32) : Option Int32 :=
  if (m_X7_isId a1) = 0 then
    some 1
  else
    if (m_X7_isPlace a2 a3) = 0 then
      some 2
    else
      (chk 6 w this).bind fun u1 =>
      (m_X7_isThere n w this a1).bind fun x2 =>
      if x2 = 0 then
        some 3
      else
        some 0
def m_X7_move (n : Nat) (w : Wd) (this : Nat) (a1 : Int32) (a2 : Int32) (a3 : Int32) : Option (Int32 × Wd) :=
  (chk 6 w this).bind fun u1 =>
  (m_X7_badMove n w this a1 a2 a3).bind fun x2 =>
  (chk 6 w this).bind fun u3 =>
  (m_X7_refused n w this x2).bind fun z4 =>
  if z4.1 = 0 then
    (chk 6 z4.2 this).bind fun u5 =>
    (m_X7_saves n z4.2 this).bind fun z6 =>
    (chk 6 z6 this).bind fun u7 =>
    (m_X7_adds n z6 this a1 a2 a3).bind fun z8 =>
    some (z8.1, z8.2)
  else
    some (0, z4.2)
def m_X7_badRemove (n : Nat) (w : Wd) (this : Nat) (a1 : Int32) : Option Int32 :=
  if (m_X7_isId a1) = 0 then
    some 1
  else
    (chk 6 w this).bind fun u1 =>
    (m_X7_isThere n w this a1).bind fun x2 =>
    if x2 = 0 then
      some 2
    else
      some 0
def m_X7_removes_p28 (n : Nat) (w : Wd) (a0 : Nat) : Option (Int32 × Wd) :=
  (chk 6 w a0).bind fun u1 =>
  (m_X7_touched n w a0).bind fun z2 =>
  some (z2.1, z2.2)
def m_X7_removes_p6 (n : Nat) : Nat → Wd → Nat → Int32 → Int32 → Option (Int32 × Wd)
  | 0, _, _, _, _ => none
  | t + 1, w, a0, a1, a2 =>
    if 5 ≤ a2 then
      m_X7_removes_p28 n w a0
    else
      (gfR 6 0 w a0).bind fun q1 =>
      (asI 0 w q1 ((5 * a1) + a2) 0).bind fun w2 =>
      m_X7_removes_p6 n t w2 a0 a1 (a2 + 1)
def m_X7_removes (n : Nat) (w : Wd) (this : Nat) (a1 : Int32) : Option (Int32 × Wd) :=
  (chk 6 w this).bind fun u1 =>
  (m_X7_laysBefore n w this).bind fun z2 =>
  m_X7_removes_p6 n n z2 this a1 0
def m_X7_remove (n : Nat) (w : Wd) (this : Nat) (a1 : Int32) : Option (Int32 × Wd) :=
  (chk 6 w this).bind fun u1 =>
  (m_X7_badRemove n w this a1).bind fun x2 =>
  (chk 6 w this).bind fun u3 =>
  (m_X7_refused n w this x2).bind fun z4 =>
  if z4.1 = 0 then
    (chk 6 z4.2 this).bind fun u5 =>
    (m_X7_saves n z4.2 this).bind fun z6 =>
    (chk 6 z6 this).bind fun u7 =>
    (m_X7_removes n z6 this a1).bind fun z8 =>
    some (z8.1, z8.2)
  else
    some (0, z4.2)
def m_X7_badSpeed (n : Nat) (w : Wd) (this : Nat) (a1 : Int32) (a2 : Int32) (a3 : Int32) : Option Int32 :=
  if (m_X7_isId a1) = 0 then
    some 1
  else
    if (m_X7_in a2 (-9) 9) = 0 then
      some 2
    else
      if (m_X7_in a3 (-9) 9) = 0 then
        some 2
      else
        (chk 6 w this).bind fun u1 =>
        (m_X7_isThere n w this a1).bind fun x2 =>
        if x2 = 0 then
          some 3
        else
          some 0
def m_X7_size (a0 : Int32) : Int32 :=
  if 0 ≤ a0 then
    a0
  else
    (-a0)
def m_X7_speeds (n : Nat) (w : Wd) (this : Nat) (a1 : Int32) (a2 : Int32) (a3 : Int32) : Option (Int32 × Wd) :=
  (gfR 6 0 w this).bind fun q1 =>
  (agI 0 w q1 ((5 * a1) + 3)).bind fun x2 =>
  (gfR 6 0 w this).bind fun q3 =>
  (agI 0 w q3 ((5 * a1) + 4)).bind fun x4 =>
  (gfR 6 0 w this).bind fun q5 =>
  (asI 0 w q5 ((5 * a1) + 3) a2).bind fun w6 =>
  (gfR 6 0 w6 this).bind fun q7 =>
  (asI 0 w6 q7 ((5 * a1) + 4) a3).bind fun w8 =>
  some (((10 * (m_X7_size x2)) + (m_X7_size x4)), w8)
def m_X7_setVelocity (n : Nat) (w : Wd) (this : Nat) (a1 : Int32) (a2 : Int32) (a3 : Int32) : Option (Int32 × Wd) :=
  (chk 6 w this).bind fun u1 =>
  (m_X7_badSpeed n w this a1 a2 a3).bind fun x2 =>
  (chk 6 w this).bind fun u3 =>
  (m_X7_refused n w this x2).bind fun z4 =>
  if z4.1 = 0 then
    (chk 6 z4.2 this).bind fun u5 =>
    (m_X7_saves n z4.2 this).bind fun z6 =>
    (chk 6 z6 this).bind fun u7 =>
    (m_X7_speeds n z6 this a1 a2 a3).bind fun z8 =>
    some (z8.1, z8.2)
  else
    some (0, z4.2)
def m_X7_steps (n : Nat) (w : Wd) (this : Nat) (a1 : Int32) : Option Wd :=
  (gfR 6 0 w this).bind fun q1 =>
  (agI 0 w q1 a1).bind fun x2 =>
  (gfR 6 0 w this).bind fun q3 =>
  (agI 0 w q3 (a1 + 2)).bind fun x4 =>
  if 0 ≤ (x2 + x4) then
    if (x2 + x4) ≤ 63 then
      (gfR 6 0 w this).bind fun q5 =>
      (asI 0 w q5 a1 (x2 + x4)).bind fun w6 =>
      some w6
    else
      (gfR 6 0 w this).bind fun q7 =>
      (asI 0 w q7 a1 (126 - (x2 + x4))).bind fun w8 =>
      (gfR 6 0 w8 this).bind fun q9 =>
      (gfR 6 0 w8 this).bind fun q10 =>
      (agI 0 w8 q10 (a1 + 2)).bind fun x11 =>
      (asI 0 w8 q9 (a1 + 2) (-x11)).bind fun w12 =>
      some w12
  else
    (gfR 6 0 w this).bind fun q13 =>
    (asI 0 w q13 a1 (-(x2 + x4))).bind fun w14 =>
    (gfR 6 0 w14 this).bind fun q15 =>
    (gfR 6 0 w14 this).bind fun q16 =>
    (agI 0 w14 q16 (a1 + 2)).bind fun x17 =>
    (asI 0 w14 q15 (a1 + 2) (-x17)).bind fun w18 =>
    some w18
def m_X7_passes_p58 (n : Nat) (k4 : Wd → Nat → Int32 → Int32 → Int32 → Option (Int32 × Wd)) (w : Wd) (a0 : Nat) (a1 : Int32) (a2 : Int32) (a3 : Int32) : Option (Int32 × Wd) :=
  (gfR 6 0 w a0).bind fun q1 =>
  (agI 0 w q1 140).bind fun x2 =>
  (asI 0 w q1 140 (x2 + 1)).bind fun w3 =>
  (chk 6 w3 a0).bind fun u4 =>
  (m_X7_touched n w3 a0).bind fun z5 =>
  k4 z5.2 a0 a1 (a2 + z5.1) (a3 + 1)
def m_X7_passes_p16 (n : Nat) (k4 : Wd → Nat → Int32 → Int32 → Int32 → Option (Int32 × Wd)) : Nat → Wd → Nat → Int32 → Int32 → Int32 → Int32 → Option (Int32 × Wd)
  | 0, _, _, _, _, _, _ => none
  | t + 1, w, a0, a1, a2, a3, a4 =>
    if 24 ≤ a4 then
      m_X7_passes_p58 n k4 w a0 a1 a2 a3
    else
      (chk 6 w a0).bind fun u1 =>
      (m_X7_isThere n w a0 a4).bind fun x2 =>
      if x2 = 0 then
        m_X7_passes_p16 n k4 t w a0 a1 a2 a3 (a4 + 1)
      else
        (chk 6 w a0).bind fun u3 =>
        (m_X7_steps n w a0 ((5 * a4) + 1)).bind fun z4 =>
        (chk 6 z4 a0).bind fun u5 =>
        (m_X7_steps n z4 a0 ((5 * a4) + 2)).bind fun z6 =>
        m_X7_passes_p16 n k4 t z6 a0 a1 a2 a3 (a4 + 1)
def m_X7_passes_p4 (n : Nat) : Nat → Wd → Nat → Int32 → Int32 → Int32 → Option (Int32 × Wd)
  | 0, _, _, _, _, _ => none
  | t + 1, w, a0, a1, a2, a3 =>
    if a1 ≤ a3 then
      some (a2, w)
    else
      (chk 6 w a0).bind fun u1 =>
      (m_X7_laysBefore n w a0).bind fun z2 =>
      m_X7_passes_p16 n (fun w b0 b1 b2 b3 => m_X7_passes_p4 n t w b0 b1 b2 b3) n z2 a0 a1 a2 a3 0
def m_X7_passes (n : Nat) (w : Wd) (this : Nat) (a1 : Int32) : Option (Int32 × Wd) :=
  m_X7_passes_p4 n n w this a1 0 0
def m_X7_areTicks (a0 : Int32) : Int32 :=
  (m_X7_in a0 1 50)
def m_X7_tick (n : Nat) (w : Wd) (this : Nat) (a1 : Int32) : Option (Int32 × Wd) :=
  if (m_X7_areTicks a1) = 0 then
    (chk 6 w this).bind fun u1 =>
    (m_X7_refused n w this 1).bind fun z2 =>
    if z2.1 = 0 then
      (chk 6 z2.2 this).bind fun u3 =>
      (m_X7_saves n z2.2 this).bind fun z4 =>
      (chk 6 z4 this).bind fun u5 =>
      (m_X7_passes n z4 this a1).bind fun z6 =>
      some (z6.1, z6.2)
    else
      some (0, z2.2)
  else
    (chk 6 w this).bind fun u7 =>
    (m_X7_refused n w this 0).bind fun z8 =>
    if z8.1 = 0 then
      (chk 6 z8.2 this).bind fun u9 =>
      (m_X7_saves n z8.2 this).bind fun z10 =>
      (chk 6 z10 this).bind fun u11 =>
      (m_X7_passes n z10 this a1).bind fun z12 =>
      some (z12.1, z12.2)
    else
      some (0, z8.2)
def m_X7_pointMany_p4 (n : Nat) : Nat → Wd → Nat → Int32 → Int32 → Option Int32
  | 0, _, _, _, _ => none
  | t + 1, w, a0, a1, a2 =>
    if 24 ≤ a2 then
      some a1
    else
      (gfR 6 0 w a0).bind fun q1 =>
      (agI 0 w q1 (5 * a2)).bind fun x2 =>
      m_X7_pointMany_p4 n t w a0 (a1 + x2) (a2 + 1)
def m_X7_pointMany (n : Nat) (w : Wd) (this : Nat) : Option Int32 :=
  m_X7_pointMany_p4 n n w this 0 0
def m_X7_draws (n : Nat) (w : Wd) (this : Nat) (a1 : Int32) : Option (Int32 × Wd) :=
  (gfJ 6 11 w this).bind fun x1 =>
  (pfV 6 11 w this (.long (jrmL ((1103515245 * x1) + 12345) 2147483648))).bind fun w2 =>
  (gfJ 6 11 w2 this).bind fun x3 =>
  (remI (Int64.toInt32 (x3 / 65536)) a1).bind fun x4 =>
  some (x4, w2)
def m_X7_scatter_p125 (n : Nat) (w : Wd) (a0 : Nat) : Option (Int32 × Wd) :=
  (chk 6 w a0).bind fun u1 =>
  (m_X7_pointMany n w a0).bind fun x2 =>
  some (x2, w)
def m_X7_scatter_p91 (n : Nat) : Nat → Wd → Nat → Int32 → Int32 → Int32 → Int32 → Option (Int32 × Wd)
  | 0, _, _, _, _, _, _ => none
  | t + 1, w, a0, a1, a2, a3, a6 =>
    if (a1 + a2) ≤ a6 then
      m_X7_scatter_p125 n w a0
    else
      (chk 6 w a0).bind fun u1 =>
      (m_X7_draws n w a0 a3).bind fun z2 =>
      (chk 6 z2.2 a0).bind fun u3 =>
      (m_X7_draws n z2.2 a0 a3).bind fun z4 =>
      (chk 6 z4.2 a0).bind fun u5 =>
      (m_X7_puts n z4.2 a0 a6 z2.1 z4.1).bind fun z6 =>
      m_X7_scatter_p91 n t z6 a0 a1 a2 a3 (a6 + 1)
def m_X7_scatter_p45 (n : Nat) (w : Wd) (s0 : Int32) (a0 : Nat) (a1 : Int32) (a2 : Int32) (a3 : Int32) (a4 : Int32) : Option (Int32 × Wd) :=
  if (m_X7_isId a1) = 0 then
    (chk 6 w a0).bind fun u11 =>
    (m_X7_refused n w a0 1).bind fun z12 =>
    if z12.1 = 0 then
      (chk 6 z12.2 a0).bind fun u13 =>
      (m_X7_saves n z12.2 a0).bind fun z14 =>
      (pfV 6 11 z14 a0 (.long (Int32.toInt64 a4))).bind fun w15 =>
      m_X7_scatter_p91 n n w15 a0 a1 a2 a3 a1
    else
      some (0, z12.2)
  else
    if s0 = 0 then
      (chk 6 w a0).bind fun u1 =>
      (m_X7_refused n w a0 2).bind fun z2 =>
      if z2.1 = 0 then
        (chk 6 z2.2 a0).bind fun u3 =>
        (m_X7_saves n z2.2 a0).bind fun z4 =>
        (pfV 6 11 z4 a0 (.long (Int32.toInt64 a4))).bind fun w5 =>
        m_X7_scatter_p91 n n w5 a0 a1 a2 a3 a1
      else
        some (0, z2.2)
    else
      (chk 6 w a0).bind fun u6 =>
      (m_X7_refused n w a0 0).bind fun z7 =>
      if z7.1 = 0 then
        (chk 6 z7.2 a0).bind fun u8 =>
        (m_X7_saves n z7.2 a0).bind fun z9 =>
        (pfV 6 11 z9 a0 (.long (Int32.toInt64 a4))).bind fun w10 =>
        m_X7_scatter_p91 n n w10 a0 a1 a2 a3 a1
      else
        some (0, z7.2)
def m_X7_scatter (n : Nat) (w : Wd) (this : Nat) (a1 : Int32) (a2 : Int32) (a3 : Int32) (a4 : Int32) : Option (Int32 × Wd) :=
  if (m_X7_isId a1) = 0 then
    m_X7_scatter_p45 n w 0 this a1 a2 a3 a4
  else
    if (m_X7_in a2 1 (24 - a1)) = 0 then
      m_X7_scatter_p45 n w 0 this a1 a2 a3 a4
    else
      if (m_X7_in a3 1 64) = 0 then
        m_X7_scatter_p45 n w 0 this a1 a2 a3 a4
      else
        if (m_X7_in a4 0 999999) = 0 then
          m_X7_scatter_p45 n w 0 this a1 a2 a3 a4
        else
          m_X7_scatter_p45 n w 1 this a1 a2 a3 a4
def m_X7_tellPoint (n : Nat) (w : Wd) (this : Nat) (a1 : Int32) (a2 : Int32) : Option Int32 :=
  if a2 = 5 then
    (m_X7_heightOf n w a1).bind fun x3 =>
    some x3
  else
    (gfR 6 0 w this).bind fun q1 =>
    (agI 0 w q1 ((5 * a1) + a2)).bind fun x2 =>
    some x2
def m_X7_point (n : Nat) (w : Wd) (this : Nat) (a1 : Int32) (a2 : Int32) : Option (Int32 × Wd) :=
  if (m_X7_isId a1) = 0 then
    (chk 6 w this).bind fun u9 =>
    (m_X7_refused n w this 1).bind fun z10 =>
    if z10.1 = 0 then
      (chk 6 z10.2 this).bind fun u11 =>
      (m_X7_tellPoint n z10.2 this a1 a2).bind fun x12 =>
      some (x12, z10.2)
    else
      some (0, z10.2)
  else
    if (m_X7_in a2 0 5) = 0 then
      (chk 6 w this).bind fun u1 =>
      (m_X7_refused n w this 2).bind fun z2 =>
      if z2.1 = 0 then
        (chk 6 z2.2 this).bind fun u3 =>
        (m_X7_tellPoint n z2.2 this a1 a2).bind fun x4 =>
        some (x4, z2.2)
      else
        some (0, z2.2)
    else
      (chk 6 w this).bind fun u5 =>
      (m_X7_refused n w this 0).bind fun z6 =>
      if z6.1 = 0 then
        (chk 6 z6.2 this).bind fun u7 =>
        (m_X7_tellPoint n z6.2 this a1 a2).bind fun x8 =>
        some (x8, z6.2)
      else
        some (0, z6.2)
def m_X7_pointsOn_p4 (n : Nat) : Nat → Wd → Nat → Int32 → Int32 → Int32 → Option Int32
  | 0, _, _, _, _, _ => none
  | t + 1, w, a0, a1, a2, a3 =>
    if 24 ≤ a3 then
      some a2
    else
      (chk 6 w a0).bind fun u1 =>
      (m_X7_isOn n w a0 a3 a1).bind fun x2 =>
      if x2 = 0 then
        m_X7_pointsOn_p4 n t w a0 a1 (a2 + 0) (a3 + 1)
      else
        m_X7_pointsOn_p4 n t w a0 a1 (a2 + 1) (a3 + 1)
def m_X7_pointsOn (n : Nat) (w : Wd) (this : Nat) (a1 : Int32) : Option Int32 :=
  m_X7_pointsOn_p4 n n w this a1 0 0
def m_X7_depthOf_p5 (n : Nat) : Nat → Wd → Nat → Int32 → Int32 → Int32 → Int32 → Option Int32
  | 0, _, _, _, _, _, _ => none
  | t + 1, w, a0, a1, a2, a3, a4 =>
    if a2 ≤ a4 then
      some a3
    else
      (chk 6 w a0).bind fun u1 =>
      (m_X7_nodeAt n w a0 a1 a4).bind fun x2 =>
      (chk 6 w a0).bind fun u3 =>
      (m_X7_nodeAt n w a0 a1 a2).bind fun x4 =>
      if (m_X7_holds x2 (m_X7_firstOf x4)) = 0 then
        m_X7_depthOf_p5 n t w a0 a1 a2 (a3 + 0) (a4 + 1)
      else
        m_X7_depthOf_p5 n t w a0 a1 a2 (a3 + 1) (a4 + 1)
def m_X7_depthOf (n : Nat) (w : Wd) (this : Nat) (a1 : Int32) (a2 : Int32) : Option Int32 :=
  m_X7_depthOf_p5 n n w this a1 a2 0 0
def m_X7_looksAt_p20 (n : Nat) : Nat → Wd → Nat → Int32 → Int32 → Int32 → Int32 → Option Wd
  | 0, _, _, _, _, _, _ => none
  | t + 1, w, a0, a1, a2, a3, a4 =>
    if 24 ≤ a4 then
      some w
    else
      (chk 6 w a0).bind fun u1 =>
      (m_X7_placeOf n w a0 a4).bind fun x2 =>
      (chk 6 w a0).bind fun u3 =>
      (m_X7_isOn n w a0 a4 a1).bind fun x4 =>
      if x4 = 0 then
        m_X7_looksAt_p20 n t w a0 a1 a2 a3 (a4 + 1)
      else
        if (x2 >>> ((2 * a3) &&& 31 : Int32)) = (a2 >>> ((2 * a3) &&& 31 : Int32)) then
          (gfI 6 12 w a0).bind fun x5 =>
          (pfV 6 12 w a0 (.int (x5 + 1))).bind fun w6 =>
          (gfI 6 13 w6 a0).bind fun x7 =>
          if x7 ≤ x2 then
            (gfI 6 13 w6 a0).bind fun x8 =>
            (pfV 6 13 w6 a0 (.int x8)).bind fun w9 =>
            (gfI 6 14 w9 a0).bind fun x10 =>
            if x2 ≤ x10 then
              (gfI 6 14 w9 a0).bind fun x11 =>
              (pfV 6 14 w9 a0 (.int x11)).bind fun w12 =>
              m_X7_looksAt_p20 n t w12 a0 a1 a2 a3 (a4 + 1)
            else
              (pfV 6 14 w9 a0 (.int x2)).bind fun w13 =>
              m_X7_looksAt_p20 n t w13 a0 a1 a2 a3 (a4 + 1)
          else
            (pfV 6 13 w6 a0 (.int x2)).bind fun w14 =>
            (gfI 6 14 w14 a0).bind fun x15 =>
            if x2 ≤ x15 then
              (gfI 6 14 w14 a0).bind fun x16 =>
              (pfV 6 14 w14 a0 (.int x16)).bind fun w17 =>
              m_X7_looksAt_p20 n t w17 a0 a1 a2 a3 (a4 + 1)
            else
              (pfV 6 14 w14 a0 (.int x2)).bind fun w18 =>
              m_X7_looksAt_p20 n t w18 a0 a1 a2 a3 (a4 + 1)
        else
          m_X7_looksAt_p20 n t w a0 a1 a2 a3 (a4 + 1)
def m_X7_looksAt (n : Nat) (w : Wd) (this : Nat) (a1 : Int32) (a2 : Int32) (a3 : Int32) : Option Wd :=
  (pfV 6 12 w this (.int 0)).bind fun w1 =>
  (pfV 6 13 w1 this (.int 4096)).bind fun w2 =>
  (pfV 6 14 w2 this (.int (-1))).bind fun w3 =>
  m_X7_looksAt_p20 n n w3 this a1 a2 a3 0
def m_X7_childOf (n : Nat) (w : Wd) (this : Nat) (a1 : Int32) (a2 : Int32) (a3 : Int32) : Option (Int32 × Wd) :=
  (chk 6 w this).bind fun u1 =>
  (m_X7_looksAt n w this a1 ((m_X7_firstOf a2) + (a3 <<< ((2 * ((m_X7_span a2) - 1)) &&& 31 : Int32))) ((m_X7_span a2) - 1)).bind fun z2 =>
  (gfI 6 12 z2 this).bind fun x3 =>
  if x3 = 0 then
    some ((-1), z2)
  else
    (gfI 6 13 z2 this).bind fun x4 =>
    (gfI 6 14 z2 this).bind fun x5 =>
    if x4 = x5 then
      (gfI 6 13 z2 this).bind fun x10 =>
      some ((100000 + x10), z2)
    else
      (gfI 6 13 z2 this).bind fun x6 =>
      (gfI 6 14 z2 this).bind fun x7 =>
      (m_X7_spanOf n z2 x6 x7).bind fun x8 =>
      (gfI 6 13 z2 this).bind fun x9 =>
      some ((((8 * ((x9 >>> ((2 * x8) &&& 31 : Int32)) <<< ((2 * x8) &&& 31 : Int32))) + 6) - x8), z2)
def m_X7_tellChild (n : Nat) (w : Wd) (this : Nat) (a1 : Int32) (a2 : Int32) (a3 : Int32) : Option (Int32 × Wd) :=
  (chk 6 w this).bind fun u1 =>
  (m_X7_nodeAt n w this a1 a2).bind fun x2 =>
  (chk 6 w this).bind fun u3 =>
  (m_X7_childOf n w this a1 x2 a3).bind fun z4 =>
  if z4.1 = (-1) then
    some ((-1), z4.2)
  else
    if 100000 ≤ z4.1 then
      (m_X7_yOf n z4.2 (z4.1 - 100000)).bind fun x5 =>
      (m_X7_xOf n z4.2 (z4.1 - 100000)).bind fun x6 =>
      some (((1000 + (64 * x5)) + x6), z4.2)
    else
      (chk 6 z4.2 this).bind fun u7 =>
      (m_X7_indexOf n z4.2 this a1 z4.1).bind fun x8 =>
      some (x8, z4.2)
def m_X7_different_p69 (n : Nat) (k4 : Wd → Nat → Int32 → Int32 → Int32 → Option Int32) (w : Wd) (a0 : Nat) (a1 : Int32) (a2 : Int32) (a3 : Int32) (a4 : Int32) : Option Int32 :=
  if a4 = 0 then
    k4 w a0 a1 (a2 + 0) (a3 + 1)
  else
    k4 w a0 a1 (a2 + 1) (a3 + 1)
def m_X7_different_p21 (n : Nat) (k4 : Wd → Nat → Int32 → Int32 → Int32 → Option Int32) : Nat → Wd → Nat → Int32 → Int32 → Int32 → Int32 → Int32 → Option Int32
  | 0, _, _, _, _, _, _, _ => none
  | t + 1, w, a0, a1, a2, a3, a4, a5 =>
    if a3 ≤ a5 then
      m_X7_different_p69 n k4 w a0 a1 a2 a3 a4
    else
      if a4 = 0 then
        m_X7_different_p69 n k4 w a0 a1 a2 a3 a4
      else
        (chk 6 w a0).bind fun u1 =>
        (m_X7_isOn n w a0 a5 a1).bind fun x2 =>
        if x2 = 0 then
          m_X7_different_p21 n k4 t w a0 a1 a2 a3 1 (a5 + 1)
        else
          (chk 6 w a0).bind fun u3 =>
          (m_X7_placeOf n w a0 a3).bind fun x4 =>
          (chk 6 w a0).bind fun u5 =>
          (m_X7_placeOf n w a0 a5).bind fun x6 =>
          if x4 = x6 then
            m_X7_different_p21 n k4 t w a0 a1 a2 a3 0 (a5 + 1)
          else
            m_X7_different_p21 n k4 t w a0 a1 a2 a3 1 (a5 + 1)
def m_X7_different_p4 (n : Nat) : Nat → Wd → Nat → Int32 → Int32 → Int32 → Option Int32
  | 0, _, _, _, _, _ => none
  | t + 1, w, a0, a1, a2, a3 =>
    if 24 ≤ a3 then
      some a2
    else
      (chk 6 w a0).bind fun u1 =>
      (m_X7_isOn n w a0 a3 a1).bind fun x2 =>
      m_X7_different_p21 n (fun w b0 b1 b2 b3 => m_X7_different_p4 n t w b0 b1 b2 b3) n w a0 a1 a2 a3 x2 0
def m_X7_different (n : Nat) (w : Wd) (this : Nat) (a1 : Int32) : Option Int32 :=
  m_X7_different_p4 n n w this a1 0 0
def m_X7_tellLevel_p48 (n : Nat) : Nat → Wd → Nat → Int32 → Int32 → Int32 → Option (Int32 × Wd)
  | 0, _, _, _, _, _ => none
  | t + 1, w, a0, a1, a3, a4 =>
    (gfR 6 8 w a0).bind fun q1 =>
    (agI 0 w q1 a1).bind fun x2 =>
    if x2 ≤ a4 then
      some (a3, w)
    else
      (chk 6 w a0).bind fun u3 =>
      (m_X7_depthOf n w a0 a1 a4).bind fun x4 =>
      if x4 ≤ a3 then
        m_X7_tellLevel_p48 n t w a0 a1 a3 (a4 + 1)
      else
        (chk 6 w a0).bind fun u5 =>
        (m_X7_depthOf n w a0 a1 a4).bind fun x6 =>
        m_X7_tellLevel_p48 n t w a0 a1 x6 (a4 + 1)
def m_X7_tellLevel_p93 (n : Nat) : Nat → Wd → Nat → Int32 → Int32 → Int32 → Option (Int32 × Wd)
  | 0, _, _, _, _, _ => none
  | t + 1, w, a0, a1, a3, a4 =>
    (gfR 6 8 w a0).bind fun q1 =>
    (agI 0 w q1 a1).bind fun x2 =>
    if (4 * x2) ≤ a4 then
      some (a3, w)
    else
      (chk 6 w a0).bind fun u3 =>
      (m_X7_nodeAt n w a0 a1 (a4 / 4)).bind fun x4 =>
      (chk 6 w a0).bind fun u5 =>
      (m_X7_childOf n w a0 a1 x4 (jrm a4 4)).bind fun z6 =>
      if z6.1 < 100000 then
        m_X7_tellLevel_p93 n t z6.2 a0 a1 (a3 + 0) (a4 + 1)
      else
        m_X7_tellLevel_p93 n t z6.2 a0 a1 (a3 + 1) (a4 + 1)
def m_X7_tellLevel (n : Nat) (w : Wd) (this : Nat) (a1 : Int32) (a2 : Int32) : Option (Int32 × Wd) :=
  if a2 = 0 then
    (chk 6 w this).bind fun u2 =>
    (m_X7_pointsOn n w this a1).bind fun x3 =>
    some (x3, w)
  else if a2 = 1 then
    (gfR 6 8 w this).bind fun q5 =>
    (agI 0 w q5 a1).bind fun x6 =>
    some (x6, w)
  else if a2 = 2 then
    m_X7_tellLevel_p48 n n w this a1 0 0
  else if a2 = 3 then
    m_X7_tellLevel_p93 n n w this a1 0 0
  else 
    (chk 6 w this).bind fun u9 =>
    (m_X7_different n w this a1).bind fun x10 =>
    some (x10, w)
def m_X7_isLevel (a0 : Int32) : Int32 :=
  (m_X7_in a0 0 4)
def m_X7_level (n : Nat) (w : Wd) (this : Nat) (a1 : Int32) (a2 : Int32) : Option (Int32 × Wd) :=
  if (m_X7_isLevel a1) = 0 then
    (chk 6 w this).bind fun u13 =>
    (m_X7_refused n w this 1).bind fun z14 =>
    if z14.1 = 0 then
      (chk 6 z14.2 this).bind fun u15 =>
      (m_X7_lays n z14.2 this).bind fun z16 =>
      (chk 6 z16 this).bind fun u17 =>
      (m_X7_tellLevel n z16 this a1 a2).bind fun z18 =>
      some (z18.1, z18.2)
    else
      some (0, z14.2)
  else
    if (m_X7_in a2 0 4) = 0 then
      (chk 6 w this).bind fun u1 =>
      (m_X7_refused n w this 2).bind fun z2 =>
      if z2.1 = 0 then
        (chk 6 z2.2 this).bind fun u3 =>
        (m_X7_lays n z2.2 this).bind fun z4 =>
        (chk 6 z4 this).bind fun u5 =>
        (m_X7_tellLevel n z4 this a1 a2).bind fun z6 =>
        some (z6.1, z6.2)
      else
        some (0, z2.2)
    else
      (chk 6 w this).bind fun u7 =>
      (m_X7_refused n w this 0).bind fun z8 =>
      if z8.1 = 0 then
        (chk 6 z8.2 this).bind fun u9 =>
        (m_X7_lays n z8.2 this).bind fun z10 =>
        (chk 6 z10 this).bind fun u11 =>
        (m_X7_tellLevel n z10 this a1 a2).bind fun z12 =>
        some (z12.1, z12.2)
      else
        some (0, z8.2)
def m_X7_tellNode_p104 (n : Nat) : Nat → Wd → Nat → Int32 → Int32 → Int32 → Int32 → Option (Int32 × Wd)
  | 0, _, _, _, _, _, _ => none
  | t + 1, w, a0, a1, a4, a5, a6 =>
    if 4 ≤ a6 then
      some (a5, w)
    else
      (chk 6 w a0).bind fun u1 =>
      (m_X7_childOf n w a0 a1 a4 a6).bind fun z2 =>
      if z2.1 = (-1) then
        m_X7_tellNode_p104 n t z2.2 a0 a1 a4 (a5 + 0) (a6 + 1)
      else
        m_X7_tellNode_p104 n t z2.2 a0 a1 a4 (a5 + 1) (a6 + 1)
def m_X7_tellNode (n : Nat) (w : Wd) (this : Nat) (a1 : Int32) (a2 : Int32) (a3 : Int32) : Option (Int32 × Wd) :=
  (chk 6 w this).bind fun u1 =>
  (m_X7_nodeAt n w this a1 a2).bind fun x2 =>
  if a3 = 0 then
    (m_X7_xOf n w (m_X7_firstOf x2)).bind fun x4 =>
    some (x4, w)
  else if a3 = 1 then
    (m_X7_yOf n w (m_X7_firstOf x2)).bind fun x6 =>
    some (x6, w)
  else if a3 = 2 then
    some ((1 <<< ((m_X7_span x2) &&& 31 : Int32)), w)
  else if a3 = 3 then
    (chk 6 w this).bind fun u9 =>
    (m_X7_depthOf n w this a1 a2).bind fun x10 =>
    some (x10, w)
  else if a3 = 4 then
    (chk 6 w this).bind fun u12 =>
    (m_X7_looksAt n w this a1 (m_X7_firstOf x2) (m_X7_span x2)).bind fun z13 =>
    (gfI 6 12 z13 this).bind fun x14 =>
    some (x14, z13)
  else 
    m_X7_tellNode_p104 n n w this a1 x2 0 0
def m_X7_isNodeOf (n : Nat) (w : Wd) (this : Nat) (a1 : Int32) (a2 : Int32) : Option (Int32 × Wd) :=
  (chk 6 w this).bind fun u1 =>
  (m_X7_lays n w this).bind fun z2 =>
  if (m_X7_isLevel a1) = 0 then
    some (0, z2)
  else
    (gfR 6 8 z2 this).bind fun q3 =>
    (agI 0 z2 q3 a1).bind fun x4 =>
    if (m_X7_in a2 0 (x4 - 1)) = 0 then
      some (0, z2)
    else
      some (1, z2)
def m_X7_node (n : Nat) (w : Wd) (this : Nat) (a1 : Int32) (a2 : Int32) (a3 : Int32) : Option (Int32 × Wd) :=
  (chk 6 w this).bind fun u1 =>
  (m_X7_isNodeOf n w this a1 a2).bind fun z2 =>
  if z2.1 = 0 then
    (chk 6 z2.2 this).bind fun u11 =>
    (m_X7_refused n z2.2 this 1).bind fun z12 =>
    if z12.1 = 0 then
      (chk 6 z12.2 this).bind fun u13 =>
      (m_X7_tellNode n z12.2 this a1 a2 a3).bind fun z14 =>
      some (z14.1, z14.2)
    else
      some (0, z12.2)
  else
    if (m_X7_in a3 0 5) = 0 then
      (chk 6 z2.2 this).bind fun u3 =>
      (m_X7_refused n z2.2 this 2).bind fun z4 =>
      if z4.1 = 0 then
        (chk 6 z4.2 this).bind fun u5 =>
        (m_X7_tellNode n z4.2 this a1 a2 a3).bind fun z6 =>
        some (z6.1, z6.2)
      else
        some (0, z4.2)
    else
      (chk 6 z2.2 this).bind fun u7 =>
      (m_X7_refused n z2.2 this 0).bind fun z8 =>
      if z8.1 = 0 then
        (chk 6 z8.2 this).bind fun u9 =>
        (m_X7_tellNode n z8.2 this a1 a2 a3).bind fun z10 =>
        some (z10.1, z10.2)
      else
        some (0, z8.2)
def m_X7_child (n : Nat) (w : Wd) (this : Nat) (a1 : Int32) (a2 : Int32) (a3 : Int32) : Option (Int32 × Wd) :=
  (chk 6 w this).bind fun u1 =>
  (m_X7_isNodeOf n w this a1 a2).bind fun z2 =>
  if z2.1 = 0 then
    (chk 6 z2.2 this).bind fun u11 =>
    (m_X7_refused n z2.2 this 1).bind fun z12 =>
    if z12.1 = 0 then
      (chk 6 z12.2 this).bind fun u13 =>
      (m_X7_tellChild n z12.2 this a1 a2 a3).bind fun z14 =>
      some (z14.1, z14.2)
    else
      some (0, z12.2)
  else
    if (m_X7_in a3 0 3) = 0 then
      (chk 6 z2.2 this).bind fun u3 =>
      (m_X7_refused n z2.2 this 2).bind fun z4 =>
      if z4.1 = 0 then
        (chk 6 z4.2 this).bind fun u5 =>
        (m_X7_tellChild n z4.2 this a1 a2 a3).bind fun z6 =>
        some (z6.1, z6.2)
      else
        some (0, z4.2)
    else
      (chk 6 z2.2 this).bind fun u7 =>
      (m_X7_refused n z2.2 this 0).bind fun z8 =>
      if z8.1 = 0 then
        (chk 6 z8.2 this).bind fun u9 =>
        (m_X7_tellChild n z8.2 this a1 a2 a3).bind fun z10 =>
        some (z10.1, z10.2)
      else
        some (0, z8.2)
def m_X7_finds_p45 (n : Nat) : Nat → Wd → Nat → Int32 → Int32 → Int32 → Option (Int32 × Wd)
  | 0, _, _, _, _, _ => none
  | t + 1, w, a0, a1, a3, a4 =>
    if a3 < 0 then
      some (a4, w)
    else
      (chk 6 w a0).bind fun u1 =>
      (m_X7_childOf n w a0 a3 a4 ((a1 >>> (((2 * (m_X7_span a4)) - 2) &&& 31 : Int32)) &&& 3)).bind fun z2 =>
      if z2.1 = (-1) then
        (gfI 6 15 z2.2 a0).bind fun x3 =>
        if a3 ≤ 0 then
          (pfV 6 15 z2.2 a0 (.int (x3 + 0))).bind fun w4 =>
          m_X7_finds_p45 n t w4 a0 a1 (a3 + (-1)) a4
        else
          (pfV 6 15 z2.2 a0 (.int (x3 + 1))).bind fun w5 =>
          m_X7_finds_p45 n t w5 a0 a1 (a3 + (-1)) a4
      else
        if 100000 ≤ z2.1 then
          (gfI 6 15 z2.2 a0).bind fun x6 =>
          if a3 ≤ 0 then
            (pfV 6 15 z2.2 a0 (.int (x6 + 0))).bind fun w7 =>
            m_X7_finds_p45 n t w7 a0 a1 (a3 + (-1)) a4
          else
            (pfV 6 15 z2.2 a0 (.int (x6 + 1))).bind fun w8 =>
            m_X7_finds_p45 n t w8 a0 a1 (a3 + (-1)) a4
        else
          if (m_X7_holds z2.1 a1) = 0 then
            (gfI 6 15 z2.2 a0).bind fun x9 =>
            if a3 ≤ 0 then
              (pfV 6 15 z2.2 a0 (.int (x9 + 0))).bind fun w10 =>
              m_X7_finds_p45 n t w10 a0 a1 (a3 + (-1)) a4
            else
              (pfV 6 15 z2.2 a0 (.int (x9 + 1))).bind fun w11 =>
              m_X7_finds_p45 n t w11 a0 a1 (a3 + (-1)) a4
          else
            (gfI 6 15 z2.2 a0).bind fun x12 =>
            (pfV 6 15 z2.2 a0 (.int (x12 + 1))).bind fun w13 =>
            m_X7_finds_p45 n t w13 a0 a1 a3 z2.1
def m_X7_finds_p37 (n : Nat) (w : Wd) (a0 : Nat) (a1 : Int32) (a3 : Int32) : Option (Int32 × Wd) :=
  (pfV 6 15 w a0 (.int 0)).bind fun w1 =>
  m_X7_finds_p45 n n w1 a0 a1 a3 0
def m_X7_finds_p5 (n : Nat) : Nat → Wd → Nat → Int32 → Int32 → Int32 → Int32 → Option (Int32 × Wd)
  | 0, _, _, _, _, _, _ => none
  | t + 1, w, a0, a1, a2, a3, a4 =>
    if 5 ≤ a4 then
      m_X7_finds_p37 n w a0 a1 a3
    else
      if a2 = 0 then
        m_X7_finds_p37 n w a0 a1 a3
      else
        (chk 6 w a0).bind fun u1 =>
        (m_X7_pointsOn n w a0 a4).bind fun x2 =>
        if x2 ≤ 0 then
          m_X7_finds_p5 n t w a0 a1 a2 a3 (a4 + 1)
        else
          m_X7_finds_p5 n t w a0 a1 a2 a4 (a4 + 1)
def m_X7_finds (n : Nat) (w : Wd) (this : Nat) (a1 : Int32) (a2 : Int32) : Option (Int32 × Wd) :=
  m_X7_finds_p5 n n w this a1 a2 0 1
def m_X7_search (n : Nat) (w : Wd) (this : Nat) (a1 : Int32) (a2 : Int32) (a3 : Int32) (a4 : Int32) : Option (Int32 × Wd) :=
  if (m_X7_isPlace a1 a2) = 0 then
    (chk 6 w this).bind fun u1 =>
    (m_X7_refused n w this 1).bind fun z2 =>
    if z2.1 = 0 then
      (chk 6 z2.2 this).bind fun u3 =>
      (m_X7_lays n z2.2 this).bind fun z4 =>
      (m_X7_codeOf n z4 a1 a2).bind fun x5 =>
      (chk 6 z4 this).bind fun u6 =>
      (m_X7_finds n z4 this x5 a3).bind fun z7 =>
      if a4 = 0 then
        (gfI 6 15 z7.2 this).bind fun x10 =>
        some (x10, z7.2)
      else
        if a4 = 1 then
          (chk 6 z7.2 this).bind fun u8 =>
          (m_X7_indexOf n z7.2 this 0 z7.1).bind fun x9 =>
          some (x9, z7.2)
        else
          some ((1 <<< ((m_X7_span z7.1) &&& 31 : Int32)), z7.2)
    else
      some (0, z2.2)
  else
    if (m_X7_in a4 0 2) = 0 then
      (chk 6 w this).bind fun u11 =>
      (m_X7_refused n w this 1).bind fun z12 =>
      if z12.1 = 0 then
        (chk 6 z12.2 this).bind fun u13 =>
        (m_X7_lays n z12.2 this).bind fun z14 =>
        (m_X7_codeOf n z14 a1 a2).bind fun x15 =>
        (chk 6 z14 this).bind fun u16 =>
        (m_X7_finds n z14 this x15 a3).bind fun z17 =>
        if a4 = 0 then
          (gfI 6 15 z17.2 this).bind fun x20 =>
          some (x20, z17.2)
        else
          if a4 = 1 then
            (chk 6 z17.2 this).bind fun u18 =>
            (m_X7_indexOf n z17.2 this 0 z17.1).bind fun x19 =>
            some (x19, z17.2)
          else
            some ((1 <<< ((m_X7_span z17.1) &&& 31 : Int32)), z17.2)
      else
        some (0, z12.2)
    else
      (chk 6 w this).bind fun u21 =>
      (m_X7_refused n w this 0).bind fun z22 =>
      if z22.1 = 0 then
        (chk 6 z22.2 this).bind fun u23 =>
        (m_X7_lays n z22.2 this).bind fun z24 =>
        (m_X7_codeOf n z24 a1 a2).bind fun x25 =>
        (chk 6 z24 this).bind fun u26 =>
        (m_X7_finds n z24 this x25 a3).bind fun z27 =>
        if a4 = 0 then
          (gfI 6 15 z27.2 this).bind fun x30 =>
          some (x30, z27.2)
        else
          if a4 = 1 then
            (chk 6 z27.2 this).bind fun u28 =>
            (m_X7_indexOf n z27.2 this 0 z27.1).bind fun x29 =>
            some (x29, z27.2)
          else
            some ((1 <<< ((m_X7_span z27.1) &&& 31 : Int32)), z27.2)
      else
        some (0, z22.2)
def m_X7_most_p4 (n : Nat) : Nat → Wd → Nat → Int32 → Int32 → Int32 → Option (Int32 × Wd)
  | 0, _, _, _, _, _ => none
  | t + 1, w, a0, a1, a2, a3 =>
    if 24 ≤ a3 then
      some (a2, w)
    else
      (chk 6 w a0).bind fun u1 =>
      (m_X7_isThere n w a0 a3).bind fun x2 =>
      if x2 = 0 then
        m_X7_most_p4 n t w a0 a1 a2 (a3 + 1)
      else
        (chk 6 w a0).bind fun u3 =>
        (m_X7_placeOf n w a0 a3).bind fun x4 =>
        (chk 6 w a0).bind fun u5 =>
        (m_X7_finds n w a0 x4 a1).bind fun z6 =>
        (gfI 6 15 z6.2 a0).bind fun x7 =>
        if x7 ≤ a2 then
          m_X7_most_p4 n t z6.2 a0 a1 a2 (a3 + 1)
        else
          (gfI 6 15 z6.2 a0).bind fun x8 =>
          m_X7_most_p4 n t z6.2 a0 a1 x8 (a3 + 1)
def m_X7_most (n : Nat) (w : Wd) (this : Nat) (a1 : Int32) : Option (Int32 × Wd) :=
  m_X7_most_p4 n n w this a1 0 0
def m_X7_worst (n : Nat) (w : Wd) (this : Nat) (a1 : Int32) : Option (Int32 × Wd) :=
  (pfV 6 4 w this (.int 0)).bind fun w1 =>
  (chk 6 w1 this).bind fun u2 =>
  (m_X7_most n w1 this a1).bind fun z3 =>
  some (z3.1, z3.2)
def m_X7_wouldTouch (n : Nat) (w : Wd) (this : Nat) (a1 : Int32) (a2 : Int32) (a3 : Int32) : Option (Int32 × Wd) :=
  (chk 6 w this).bind fun u1 =>
  (m_X7_badMove n w this a1 a2 a3).bind fun x2 =>
  (chk 6 w this).bind fun u3 =>
  (m_X7_refused n w this x2).bind fun z4 =>
  if z4.1 = 0 then
    (gfR 6 0 z4.2 this).bind fun q5 =>
    (agI 0 z4.2 q5 ((5 * a1) + 1)).bind fun x6 =>
    (gfR 6 0 z4.2 this).bind fun q7 =>
    (agI 0 z4.2 q7 ((5 * a1) + 2)).bind fun x8 =>
    (chk 6 z4.2 this).bind fun u9 =>
    (m_X7_adds n z4.2 this a1 a2 a3).bind fun z10 =>
    (chk 6 z10.2 this).bind fun u11 =>
    (m_X7_puts n z10.2 this a1 x6 x8).bind fun z12 =>
    some (z10.1, z12)
  else
    some (0, z4.2)
def m_X7_far (n : Nat) (w : Wd) (this : Nat) (a1 : Int32) (a2 : Int32) (a3 : Int32) : Option Int32 :=
  (gfR 6 0 w this).bind fun q1 =>
  (agI 0 w q1 ((5 * a1) + 1)).bind fun x2 =>
  (gfR 6 0 w this).bind fun q3 =>
  (agI 0 w q3 ((5 * a1) + 2)).bind fun x4 =>
  some (((x2 - a2) * (x2 - a2)) + ((x4 - a3) * (x4 - a3)))
def m_X7_isCursor (a0 : Int32) : Int32 :=
  (m_X7_in a0 0 3)
def m_X7_open_p25 (n : Nat) (w : Wd) (s0 : Int32) (s1 : Nat) (a0 : Nat) (a1 : Int32) (a2 : Int32) (a3 : Int32) : Option (Int32 × Wd) :=
  (chk 6 w s1).bind fun u1 =>
  (m_X7_refused n w s1 s0).bind fun z2 =>
  if z2.1 = 0 then
    (chk 6 z2.2 a0).bind fun u3 =>
    (m_X7_saves n z2.2 a0).bind fun z4 =>
    (gfR 6 0 z4 a0).bind fun q5 =>
    (asI 0 z4 q5 (120 + (5 * a1)) a2).bind fun w6 =>
    (gfR 6 0 w6 a0).bind fun q7 =>
    (asI 0 w6 q7 ((120 + (5 * a1)) + 1) a3).bind fun w8 =>
    (gfR 6 0 w8 a0).bind fun q9 =>
    (asI 0 w8 q9 ((120 + (5 * a1)) + 2) 0).bind fun w10 =>
    (chk 6 w10 a0).bind fun u11 =>
    (m_X7_pointMany n w10 a0).bind fun x12 =>
    some (x12, w10)
  else
    some (0, z2.2)
def m_X7_open (n : Nat) (w : Wd) (this : Nat) (a1 : Int32) (a2 : Int32) (a3 : Int32) : Option (Int32 × Wd) :=
  if (m_X7_isCursor a1) = 0 then
    m_X7_open_p25 n w 1 this this a1 a2 a3
  else
    if (m_X7_isPlace a2 a3) = 0 then
      m_X7_open_p25 n w 2 this this a1 a2 a3
    else
      m_X7_open_p25 n w 0 this this a1 a2 a3
def m_X7_isBehind (n : Nat) (w : Wd) (this : Nat) (a1 : Int32) (a2 : Int32) : Option Int32 :=
  (gfR 6 0 w this).bind fun q1 =>
  (agI 0 w q1 (120 + (5 * a1))).bind fun x2 =>
  (gfR 6 0 w this).bind fun q3 =>
  (agI 0 w q3 ((120 + (5 * a1)) + 1)).bind fun x4 =>
  (chk 6 w this).bind fun u5 =>
  (m_X7_far n w this a2 x2 x4).bind fun x6 =>
  (chk 6 w this).bind fun u7 =>
  (m_X7_isThere n w this a2).bind fun x8 =>
  if x8 = 0 then
    some 0
  else
    (gfR 6 0 w this).bind fun q9 =>
    (agI 0 w q9 ((120 + (5 * a1)) + 2)).bind fun x10 =>
    if x10 = 0 then
      some 1
    else
      (gfR 6 0 w this).bind fun q11 =>
      (agI 0 w q11 ((120 + (5 * a1)) + 3)).bind fun x12 =>
      if x12 < x6 then
        some 1
      else
        (gfR 6 0 w this).bind fun q13 =>
        (agI 0 w q13 ((120 + (5 * a1)) + 3)).bind fun x14 =>
        if x6 = x14 then
          (gfR 6 0 w this).bind fun q15 =>
          (agI 0 w q15 ((120 + (5 * a1)) + 4)).bind fun x16 =>
          if a2 ≤ x16 then
            some 0
          else
            some 1
        else
          some 0
def m_X7_next_p126 (n : Nat) (w : Wd) (a0 : Nat) (a2 : Int32) (a3 : Int32) : Option (Int32 × Wd) :=
  if a3 = (-1) then
    some (a3, w)
  else
    (gfR 6 0 w a0).bind fun q1 =>
    (asI 0 w q1 (a2 + 2) 1).bind fun w2 =>
    (gfR 6 0 w2 a0).bind fun q3 =>
    (gfR 6 0 w2 a0).bind fun q4 =>
    (agI 0 w2 q4 a2).bind fun x5 =>
    (gfR 6 0 w2 a0).bind fun q6 =>
    (agI 0 w2 q6 (a2 + 1)).bind fun x7 =>
    (chk 6 w2 a0).bind fun u8 =>
    (m_X7_far n w2 a0 a3 x5 x7).bind fun x9 =>
    (asI 0 w2 q3 (a2 + 3) x9).bind fun w10 =>
    (gfR 6 0 w10 a0).bind fun q11 =>
    (asI 0 w10 q11 (a2 + 4) a3).bind fun w12 =>
    some (a3, w12)
def m_X7_next_p37 (n : Nat) : Nat → Wd → Nat → Int32 → Int32 → Int32 → Int32 → Option (Int32 × Wd)
  | 0, _, _, _, _, _, _ => none
  | t + 1, w, a0, a1, a2, a3, a4 =>
    if 24 ≤ a4 then
      m_X7_next_p126 n w a0 a2 a3
    else
      (chk 6 w a0).bind fun u1 =>
      (m_X7_isBehind n w a0 a1 a4).bind fun x2 =>
      if x2 = 0 then
        m_X7_next_p37 n t w a0 a1 a2 a3 (a4 + 1)
      else
        if a3 = (-1) then
          m_X7_next_p37 n t w a0 a1 a2 a4 (a4 + 1)
        else
          (gfR 6 0 w a0).bind fun q3 =>
          (agI 0 w q3 a2).bind fun x4 =>
          (gfR 6 0 w a0).bind fun q5 =>
          (agI 0 w q5 (a2 + 1)).bind fun x6 =>
          (chk 6 w a0).bind fun u7 =>
          (m_X7_far n w a0 a4 x4 x6).bind fun x8 =>
          (gfR 6 0 w a0).bind fun q9 =>
          (agI 0 w q9 a2).bind fun x10 =>
          (gfR 6 0 w a0).bind fun q11 =>
          (agI 0 w q11 (a2 + 1)).bind fun x12 =>
          (chk 6 w a0).bind fun u13 =>
          (m_X7_far n w a0 a3 x10 x12).bind fun x14 =>
          if x14 ≤ x8 then
            m_X7_next_p37 n t w a0 a1 a2 a3 (a4 + 1)
          else
            m_X7_next_p37 n t w a0 a1 a2 a4 (a4 + 1)
def m_X7_next (n : Nat) (w : Wd) (this : Nat) (a1 : Int32) : Option (Int32 × Wd) :=
  if (m_X7_isCursor a1) = 0 then
    (chk 6 w this).bind fun u1 =>
    (m_X7_refused n w this 1).bind fun z2 =>
    if z2.1 = 0 then
      (chk 6 z2.2 this).bind fun u3 =>
      (m_X7_saves n z2.2 this).bind fun z4 =>
      m_X7_next_p37 n n z4 this a1 (120 + (5 * a1)) (-1) 0
    else
      some (0, z2.2)
  else
    (chk 6 w this).bind fun u5 =>
    (m_X7_refused n w this 0).bind fun z6 =>
    if z6.1 = 0 then
      (chk 6 z6.2 this).bind fun u7 =>
      (m_X7_saves n z6.2 this).bind fun z8 =>
      m_X7_next_p37 n n z8 this a1 (120 + (5 * a1)) (-1) 0
    else
      some (0, z6.2)
def m_X7_beyond (a0 : Int32) (a1 : Int32) (a2 : Int32) : Int32 :=
  if a1 ≤ a0 then
    if a0 ≤ a2 then
      0
    else
      (a0 - a2)
  else
    (a1 - a0)
def m_X7_farFrom (n : Nat) (w : Wd) (a0 : Int32) (a1 : Int32) (a2 : Int32) : Option Int32 :=
  (m_X7_xOf n w (m_X7_firstOf a0)).bind fun x1 =>
  (m_X7_yOf n w (m_X7_firstOf a0)).bind fun x2 =>
  some (((m_X7_beyond a1 x1 (x1 + ((1 <<< ((m_X7_span a0) &&& 31 : Int32)) - 1))) * (m_X7_beyond a1 x1 (x1 + ((1 <<< ((m_X7_span a0) &&& 31 : Int32)) - 1)))) + ((m_X7_beyond a2 x2 (x2 + ((1 <<< ((m_X7_span a0) &&& 31 : Int32)) - 1))) * (m_X7_beyond a2 x2 (x2 + ((1 <<< ((m_X7_span a0) &&& 31 : Int32)) - 1)))))
def m_X7_tellCursor_p82 (n : Nat) : Nat → Wd → Nat → Int32 → Int32 → Int32 → Option Int32
  | 0, _, _, _, _, _ => none
  | t + 1, w, a0, a1, a4, a5 =>
    if 24 ≤ a5 then
      some a4
    else
      (chk 6 w a0).bind fun u1 =>
      (m_X7_isBehind n w a0 a1 a5).bind fun x2 =>
      if x2 = 0 then
        m_X7_tellCursor_p82 n t w a0 a1 (a4 + 0) (a5 + 1)
      else
        m_X7_tellCursor_p82 n t w a0 a1 (a4 + 1) (a5 + 1)
def m_X7_tellCursor_p121 (n : Nat) : Nat → Wd → Nat → Int32 → Int32 → Int32 → Option Int32
  | 0, _, _, _, _, _ => none
  | t + 1, w, a0, a3, a4, a5 =>
    (gfR 6 8 w a0).bind fun q1 =>
    (agI 0 w q1 0).bind fun x2 =>
    if x2 ≤ a5 then
      some a4
    else
      (gfR 6 0 w a0).bind fun q3 =>
      (agI 0 w q3 (a3 + 2)).bind fun x4 =>
      if x4 = 1 then
        (chk 6 w a0).bind fun u5 =>
        (m_X7_nodeAt n w a0 0 a5).bind fun x6 =>
        (gfR 6 0 w a0).bind fun q7 =>
        (agI 0 w q7 a3).bind fun x8 =>
        (gfR 6 0 w a0).bind fun q9 =>
        (agI 0 w q9 (a3 + 1)).bind fun x10 =>
        (m_X7_farFrom n w x6 x8 x10).bind fun x11 =>
        (gfR 6 0 w a0).bind fun q12 =>
        (agI 0 w q12 (a3 + 3)).bind fun x13 =>
        if x13 < x11 then
          m_X7_tellCursor_p121 n t w a0 a3 (a4 + 0) (a5 + 1)
        else
          m_X7_tellCursor_p121 n t w a0 a3 (a4 + 1) (a5 + 1)
      else
        some a4
def m_X7_tellCursor (n : Nat) (w : Wd) (this : Nat) (a1 : Int32) (a2 : Int32) : Option Int32 :=
  if a2 = 0 then
    (gfR 6 0 w this).bind fun q2 =>
    (agI 0 w q2 ((120 + (5 * a1)) + a2)).bind fun x3 =>
    some x3
  else if a2 = 1 then
    (gfR 6 0 w this).bind fun q5 =>
    (agI 0 w q5 ((120 + (5 * a1)) + a2)).bind fun x6 =>
    some x6
  else if a2 = 2 then
    (gfR 6 0 w this).bind fun q8 =>
    (agI 0 w q8 ((120 + (5 * a1)) + 2)).bind fun x9 =>
    if x9 = 0 then
      some (-1)
    else
      (gfR 6 0 w this).bind fun q10 =>
      (agI 0 w q10 (((120 + (5 * a1)) + 1) + a2)).bind fun x11 =>
      some x11
  else if a2 = 3 then
    (gfR 6 0 w this).bind fun q13 =>
    (agI 0 w q13 ((120 + (5 * a1)) + 2)).bind fun x14 =>
    if x14 = 0 then
      some (-1)
    else
      (gfR 6 0 w this).bind fun q15 =>
      (agI 0 w q15 (((120 + (5 * a1)) + 1) + a2)).bind fun x16 =>
      some x16
  else if a2 = 4 then
    m_X7_tellCursor_p82 n n w this a1 0 0
  else 
    m_X7_tellCursor_p121 n n w this (120 + (5 * a1)) 0 0
def m_X7_cursor (n : Nat) (w : Wd) (this : Nat) (a1 : Int32) (a2 : Int32) : Option (Int32 × Wd) :=
  if (m_X7_isCursor a1) = 0 then
    (chk 6 w this).bind fun u13 =>
    (m_X7_refused n w this 1).bind fun z14 =>
    if z14.1 = 0 then
      (chk 6 z14.2 this).bind fun u15 =>
      (m_X7_lays n z14.2 this).bind fun z16 =>
      (chk 6 z16 this).bind fun u17 =>
      (m_X7_tellCursor n z16 this a1 a2).bind fun x18 =>
      some (x18, z16)
    else
      some (0, z14.2)
  else
    if (m_X7_in a2 0 5) = 0 then
      (chk 6 w this).bind fun u1 =>
      (m_X7_refused n w this 2).bind fun z2 =>
      if z2.1 = 0 then
        (chk 6 z2.2 this).bind fun u3 =>
        (m_X7_lays n z2.2 this).bind fun z4 =>
        (chk 6 z4 this).bind fun u5 =>
        (m_X7_tellCursor n z4 this a1 a2).bind fun x6 =>
        some (x6, z4)
      else
        some (0, z2.2)
    else
      (chk 6 w this).bind fun u7 =>
      (m_X7_refused n w this 0).bind fun z8 =>
      if z8.1 = 0 then
        (chk 6 z8.2 this).bind fun u9 =>
        (m_X7_lays n z8.2 this).bind fun z10 =>
        (chk 6 z10 this).bind fun u11 =>
        (m_X7_tellCursor n z10 this a1 a2).bind fun x12 =>
        some (x12, z10)
      else
        some (0, z8.2)
def m_X7_nearest_p113 (n : Nat) (k32 : Wd → Nat → Int32 → Int32 → Int32 → Int32 → Int32 → Option (Int32 × Wd)) (w : Wd) (a0 : Nat) (a1 : Int32) (a2 : Int32) (a3 : Int32) (a4 : Int32) (a5 : Int32) (a6 : Int32) : Option (Int32 × Wd) :=
  (chk 6 w a0).bind fun u1 =>
  (m_X7_isThere n w a0 a5).bind fun x2 =>
  if x2 = 0 then
    k32 w a0 a1 a2 a3 a4 (a5 + 1)
  else
    if a6 = a3 then
      k32 w a0 a1 a2 a3 a5 (a5 + 1)
    else
      k32 w a0 a1 a2 a3 a4 (a5 + 1)
def m_X7_nearest_p45 (n : Nat) (k32 : Wd → Nat → Int32 → Int32 → Int32 → Int32 → Int32 → Option (Int32 × Wd)) : Nat → Wd → Nat → Int32 → Int32 → Int32 → Int32 → Int32 → Int32 → Int32 → Option (Int32 × Wd)
  | 0, _, _, _, _, _, _, _, _, _ => none
  | t + 1, w, a0, a1, a2, a3, a4, a5, a6, a7 =>
    if 24 ≤ a7 then
      m_X7_nearest_p113 n k32 w a0 a1 a2 a3 a4 a5 a6
    else
      (chk 6 w a0).bind fun u1 =>
      (m_X7_far n w a0 a5 a1 a2).bind fun x2 =>
      (chk 6 w a0).bind fun u3 =>
      (m_X7_far n w a0 a7 a1 a2).bind fun x4 =>
      (chk 6 w a0).bind fun u5 =>
      (m_X7_isThere n w a0 a7).bind fun x6 =>
      if x6 = 0 then
        m_X7_nearest_p45 n k32 t w a0 a1 a2 a3 a4 a5 (a6 + 0) (a7 + 1)
      else
        if 0 < (x2 - x4) then
          m_X7_nearest_p45 n k32 t w a0 a1 a2 a3 a4 a5 (a6 + 1) (a7 + 1)
        else
          if (x2 - x4) = 0 then
            if a5 ≤ a7 then
              m_X7_nearest_p45 n k32 t w a0 a1 a2 a3 a4 a5 (a6 + 0) (a7 + 1)
            else
              m_X7_nearest_p45 n k32 t w a0 a1 a2 a3 a4 a5 (a6 + 1) (a7 + 1)
          else
            m_X7_nearest_p45 n k32 t w a0 a1 a2 a3 a4 a5 (a6 + 0) (a7 + 1)
def m_X7_nearest_p32 (n : Nat) : Nat → Wd → Nat → Int32 → Int32 → Int32 → Int32 → Int32 → Option (Int32 × Wd)
  | 0, _, _, _, _, _, _, _ => none
  | t + 1, w, a0, a1, a2, a3, a4, a5 =>
    if 24 ≤ a5 then
      some (a4, w)
    else
      m_X7_nearest_p45 n (fun w b0 b1 b2 b3 b4 b5 => m_X7_nearest_p32 n t w b0 b1 b2 b3 b4 b5) n w a0 a1 a2 a3 a4 a5 0 0
def m_X7_nearest (n : Nat) (w : Wd) (this : Nat) (a1 : Int32) (a2 : Int32) (a3 : Int32) : Option (Int32 × Wd) :=
  if (m_X7_isPlace a1 a2) = 0 then
    (chk 6 w this).bind fun u1 =>
    (m_X7_refused n w this 1).bind fun z2 =>
    if z2.1 = 0 then
      m_X7_nearest_p32 n n z2.2 this a1 a2 a3 (-1) 0
    else
      some (0, z2.2)
  else
    if a3 < 0 then
      (chk 6 w this).bind fun u3 =>
      (m_X7_refused n w this 1).bind fun z4 =>
      if z4.1 = 0 then
        m_X7_nearest_p32 n n z4.2 this a1 a2 a3 (-1) 0
      else
        some (0, z4.2)
    else
      (chk 6 w this).bind fun u5 =>
      (m_X7_refused n w this 0).bind fun z6 =>
      if z6.1 = 0 then
        m_X7_nearest_p32 n n z6.2 this a1 a2 a3 (-1) 0
      else
        some (0, z6.2)
def m_X7_within_p37 (n : Nat) : Nat → Wd → Nat → Int32 → Int32 → Int32 → Int32 → Int32 → Int32 → Option (Int32 × Wd)
  | 0, _, _, _, _, _, _, _, _ => none
  | t + 1, w, a0, a1, a2, a3, a4, a5, a6 =>
    if 24 ≤ a6 then
      some (a5, w)
    else
      (chk 6 w a0).bind fun u1 =>
      (m_X7_isThere n w a0 a6).bind fun x2 =>
      if x2 = 0 then
        m_X7_within_p37 n t w a0 a1 a2 a3 a4 (a5 + 0) (a6 + 1)
      else
        (gfR 6 0 w a0).bind fun q3 =>
        (agI 0 w q3 ((5 * a6) + 1)).bind fun x4 =>
        if (m_X7_in x4 a1 a3) = 0 then
          m_X7_within_p37 n t w a0 a1 a2 a3 a4 (a5 + 0) (a6 + 1)
        else
          (gfR 6 0 w a0).bind fun q5 =>
          (agI 0 w q5 ((5 * a6) + 2)).bind fun x6 =>
          if (m_X7_in x6 a2 a4) = 0 then
            m_X7_within_p37 n t w a0 a1 a2 a3 a4 (a5 + 0) (a6 + 1)
          else
            m_X7_within_p37 n t w a0 a1 a2 a3 a4 (a5 + 1) (a6 + 1)
def m_X7_within (n : Nat) (w : Wd) (this : Nat) (a1 : Int32) (a2 : Int32) (a3 : Int32) (a4 : Int32) : Option (Int32 × Wd) :=
  if (m_X7_isPlace a1 a2) = 0 then
    (chk 6 w this).bind fun u1 =>
    (m_X7_refused n w this 1).bind fun z2 =>
    if z2.1 = 0 then
      m_X7_within_p37 n n z2.2 this a1 a2 a3 a4 0 0
    else
      some (0, z2.2)
  else
    if (m_X7_isPlace a3 a4) = 0 then
      (chk 6 w this).bind fun u3 =>
      (m_X7_refused n w this 1).bind fun z4 =>
      if z4.1 = 0 then
        m_X7_within_p37 n n z4.2 this a1 a2 a3 a4 0 0
      else
        some (0, z4.2)
    else
      (chk 6 w this).bind fun u5 =>
      (m_X7_refused n w this 0).bind fun z6 =>
      if z6.1 = 0 then
        m_X7_within_p37 n n z6.2 this a1 a2 a3 a4 0 0
      else
        some (0, z6.2)
def m_X7_tellClosest_p23 (n : Nat) (k10 : Wd → Nat → Int32 → Int32 → Int32 → Int32 → Int32 → Option Int32) : Nat → Wd → Nat → Int32 → Int32 → Int32 → Int32 → Int32 → Int32 → Option Int32
  | 0, _, _, _, _, _, _, _, _ => none
  | t + 1, w, a0, a1, a2, a3, a4, a5, a6 =>
    if 24 ≤ a6 then
      k10 w a0 a1 a2 a3 a4 (a5 + 1)
    else
      (gfR 6 0 w a0).bind fun q1 =>
      (agI 0 w q1 ((5 * a6) + 1)).bind fun x2 =>
      (gfR 6 0 w a0).bind fun q3 =>
      (agI 0 w q3 ((5 * a6) + 2)).bind fun x4 =>
      (chk 6 w a0).bind fun u5 =>
      (m_X7_far n w a0 a5 x2 x4).bind fun x6 =>
      (chk 6 w a0).bind fun u7 =>
      (m_X7_isThere n w a0 a5).bind fun x8 =>
      if x8 = 0 then
        m_X7_tellClosest_p23 n k10 t w a0 a1 a2 a3 a4 a5 (a6 + 1)
      else
        (chk 6 w a0).bind fun u9 =>
        (m_X7_isThere n w a0 a6).bind fun x10 =>
        if x10 = 0 then
          m_X7_tellClosest_p23 n k10 t w a0 a1 a2 a3 a4 a5 (a6 + 1)
        else
          if a2 = (-1) then
            m_X7_tellClosest_p23 n k10 t w a0 a1 x6 a5 a6 a5 (a6 + 1)
          else
            if a2 ≤ x6 then
              m_X7_tellClosest_p23 n k10 t w a0 a1 a2 a3 a4 a5 (a6 + 1)
            else
              m_X7_tellClosest_p23 n k10 t w a0 a1 x6 a5 a6 a5 (a6 + 1)
def m_X7_tellClosest_p111 (n : Nat) (w : Wd) (a1 : Int32) (a2 : Int32) (a3 : Int32) (a4 : Int32) : Option Int32 :=
  if a1 = 0 then
    some a2
  else
    if a1 = 1 then
      some a3
    else
      some a4
def m_X7_tellClosest_p10 (n : Nat) : Nat → Wd → Nat → Int32 → Int32 → Int32 → Int32 → Int32 → Option Int32
  | 0, _, _, _, _, _, _, _ => none
  | t + 1, w, a0, a1, a2, a3, a4, a5 =>
    if 24 ≤ a5 then
      m_X7_tellClosest_p111 n w a1 a2 a3 a4
    else
      m_X7_tellClosest_p23 n (fun w b0 b1 b2 b3 b4 b5 => m_X7_tellClosest_p10 n t w b0 b1 b2 b3 b4 b5) n w a0 a1 a2 a3 a4 a5 (a5 + 1)
def m_X7_tellClosest (n : Nat) (w : Wd) (this : Nat) (a1 : Int32) : Option Int32 :=
  m_X7_tellClosest_p10 n n w this a1 (-1) (-1) (-1) 0
def m_X7_closest (n : Nat) (w : Wd) (this : Nat) (a1 : Int32) : Option (Int32 × Wd) :=
  if (m_X7_in a1 0 2) = 0 then
    (chk 6 w this).bind fun u1 =>
    (m_X7_refused n w this 1).bind fun z2 =>
    if z2.1 = 0 then
      (chk 6 z2.2 this).bind fun u3 =>
      (m_X7_tellClosest n z2.2 this a1).bind fun x4 =>
      some (x4, z2.2)
    else
      some (0, z2.2)
  else
    (chk 6 w this).bind fun u5 =>
    (m_X7_refused n w this 0).bind fun z6 =>
    if z6.1 = 0 then
      (chk 6 z6.2 this).bind fun u7 =>
      (m_X7_tellClosest n z6.2 this a1).bind fun x8 =>
      some (x8, z6.2)
    else
      some (0, z6.2)
def m_X7_type (n : Nat) (w : Wd) (this : Nat) (a1 : Int32) : Option (Int32 × Wd) :=
  if (m_X7_in a1 0 127) = 0 then
    (chk 6 w this).bind fun u18 =>
    (m_X7_refused n w this 1).bind fun z19 =>
    if z19.1 = 0 then
      (gfR 6 5 z19.2 this).bind fun q20 =>
      (gfI 6 6 z19.2 this).bind fun x21 =>
      (asI 0 z19.2 q20 x21 a1).bind fun w22 =>
      (gfI 6 6 w22 this).bind fun x23 =>
      (pfV 6 6 w22 this (.int (x23 + 1))).bind fun w24 =>
      (gfI 6 6 w24 this).bind fun x25 =>
      some (x25, w24)
    else
      some (0, z19.2)
  else
    (gfI 6 6 w this).bind fun x1 =>
    if x1 = 120 then
      (chk 6 w this).bind fun u10 =>
      (m_X7_refused n w this 2).bind fun z11 =>
      if z11.1 = 0 then
        (gfR 6 5 z11.2 this).bind fun q12 =>
        (gfI 6 6 z11.2 this).bind fun x13 =>
        (asI 0 z11.2 q12 x13 a1).bind fun w14 =>
        (gfI 6 6 w14 this).bind fun x15 =>
        (pfV 6 6 w14 this (.int (x15 + 1))).bind fun w16 =>
        (gfI 6 6 w16 this).bind fun x17 =>
        some (x17, w16)
      else
        some (0, z11.2)
    else
      (chk 6 w this).bind fun u2 =>
      (m_X7_refused n w this 0).bind fun z3 =>
      if z3.1 = 0 then
        (gfR 6 5 z3.2 this).bind fun q4 =>
        (gfI 6 6 z3.2 this).bind fun x5 =>
        (asI 0 z3.2 q4 x5 a1).bind fun w6 =>
        (gfI 6 6 w6 this).bind fun x7 =>
        (pfV 6 6 w6 this (.int (x7 + 1))).bind fun w8 =>
        (gfI 6 6 w8 this).bind fun x9 =>
        some (x9, w8)
      else
        some (0, z3.2)
def m_X7_clearScript (n : Nat) (w : Wd) (this : Nat) : Option (Int32 × Wd) :=
  (pfV 6 4 w this (.int 0)).bind fun w1 =>
  (gfI 6 6 w1 this).bind fun x2 =>
  (pfV 6 6 w1 this (.int 0)).bind fun w3 =>
  some (x2, w3)
def m_X7_isAt (n : Nat) (w : Wd) (this : Nat) (a1 : Int32) (a2 : Int32) : Option Int32 :=
  (gfI 6 16 w this).bind fun x1 =>
  (gfI 6 6 w this).bind fun x2 =>
  if x2 ≤ x1 then
    some 0
  else
    (gfR 6 5 w this).bind fun q3 =>
    (gfI 6 16 w this).bind fun x4 =>
    (agI 0 w q3 x4).bind fun x5 =>
    if (m_X7_in x5 a1 a2) = 0 then
      some 0
    else
      some 1
def m_X7_skips_p9 (n : Nat) : Nat → Wd → Nat → Int32 → Option (Int32 × Wd)
  | 0, _, _, _ => none
  | t + 1, w, a0, a1 =>
    (chk 6 w a0).bind fun u1 =>
    (m_X7_isAt n w a0 32 32).bind fun x2 =>
    if x2 = 0 then
      (bck a1).bind fun u3 =>
      some (a1, w)
    else
      (gfI 6 16 w a0).bind fun x4 =>
      (pfV 6 16 w a0 (.int (x4 + 1))).bind fun w5 =>
      m_X7_skips_p9 n t w5 a0 a1
def m_X7_skips (n : Nat) (w : Wd) (this : Nat) : Option (Int32 × Wd) :=
  (chk 6 w this).bind fun u1 =>
  (m_X7_isAt n w this 32 32).bind fun x2 =>
  m_X7_skips_p9 n n w this x2
def m_X7_wordFrom_p49 (n : Nat) (w : Wd) (a2 : Int32) : Option Int32 :=
  if a2 = 841 then
    some 1
  else if a2 = 92275 then
    some 3
  else if a2 = 267413 then
    some 2
  else if a2 = 400313 then
    some 5
  else if a2 = 10416091 then
    some 4
  else 
    some 0
def m_X7_wordFrom_p4 (n : Nat) : Nat → Wd → Nat → Int32 → Int32 → Int32 → Option Int32
  | 0, _, _, _, _, _ => none
  | t + 1, w, a0, a1, a2, a3 =>
    (gfI 6 16 w a0).bind fun x1 =>
    if x1 ≤ a3 then
      m_X7_wordFrom_p49 n w a2
    else
      (gfI 6 16 w a0).bind fun x2 =>
      if (x2 - a1) ≤ 5 then
        (gfR 6 5 w a0).bind fun q3 =>
        (agI 0 w q3 a3).bind fun x4 =>
        m_X7_wordFrom_p4 n t w a0 a1 ((((27 * a2) + x4) - 97) + 1) (a3 + 1)
      else
        m_X7_wordFrom_p4 n t w a0 a1 0 (a3 + 1)
def m_X7_wordFrom (n : Nat) (w : Wd) (this : Nat) (a1 : Int32) : Option Int32 :=
  m_X7_wordFrom_p4 n n w this a1 0 a1
def m_X7_readsNumber_p32 (n : Nat) (w : Wd) (s0 : Int32) (s1 : Int32) (s2 : Nat) (a0 : Nat) (a1 : Int32) (a2 : Int32) : Option (Int32 × Wd) :=
  (pfV 6 16 w s2 (.int (s1 + s0))).bind fun w1 =>
  (chk 6 w1 a0).bind fun u2 =>
  (m_X7_isAt n w1 a0 48 57).bind fun x3 =>
  if x3 = 0 then
    some (0, w1)
  else
    (gfR 6 5 w1 a0).bind fun q4 =>
    (gfI 6 16 w1 a0).bind fun x5 =>
    (agI 0 w1 q4 x5).bind fun x6 =>
    (gfI 6 16 w1 a0).bind fun x7 =>
    (pfV 6 16 w1 a0 (.int (x7 + 1))).bind fun w8 =>
    (chk 6 w8 a0).bind fun u9 =>
    (m_X7_isAt n w8 a0 48 57).bind fun x10 =>
    if x10 = 0 then
      (gfR 6 18 w8 a0).bind fun q11 =>
      if a2 = 0 then
        (asI 0 w8 q11 a1 (x6 - 48)).bind fun w12 =>
        some (1, w12)
      else
        (asI 0 w8 q11 a1 (-(x6 - 48))).bind fun w13 =>
        some (1, w13)
    else
      (gfR 6 5 w8 a0).bind fun q14 =>
      (gfI 6 16 w8 a0).bind fun x15 =>
      (agI 0 w8 q14 x15).bind fun x16 =>
      (gfI 6 16 w8 a0).bind fun x17 =>
      (pfV 6 16 w8 a0 (.int (x17 + 1))).bind fun w18 =>
      (gfR 6 18 w18 a0).bind fun q19 =>
      if a2 = 0 then
        (asI 0 w18 q19 a1 (((10 * (x6 - 48)) + x16) - 48)).bind fun w20 =>
        some (1, w20)
      else
        (asI 0 w18 q19 a1 (-(((10 * (x6 - 48)) + x16) - 48))).bind fun w21 =>
        some (1, w21)
def m_X7_readsNumber (n : Nat) (w : Wd) (this : Nat) (a1 : Int32) : Option (Int32 × Wd) :=
  (chk 6 w this).bind fun u1 =>
  (m_X7_skips n w this).bind fun z2 =>
  if z2.1 = 0 then
    some (0, z2.2)
  else
    (chk 6 z2.2 this).bind fun u3 =>
    (m_X7_isAt n z2.2 this 45 45).bind fun x4 =>
    (gfI 6 16 z2.2 this).bind fun x5 =>
    if x4 = 0 then
      m_X7_readsNumber_p32 n z2.2 0 x5 this this a1 x4
    else
      m_X7_readsNumber_p32 n z2.2 1 x5 this this a1 x4
def m_X7_reads_p102 (n : Nat) (w : Wd) (a0 : Nat) (a3 : Int32) : Option (Int32 × Wd) :=
  if a3 = 0 then
    (bck a3).bind fun u1 =>
    some (a3, w)
  else
    (chk 6 w a0).bind fun u2 =>
    (m_X7_skips n w a0).bind fun z3 =>
    (chk 6 z3.2 a0).bind fun u4 =>
    (m_X7_isAt n z3.2 a0 59 59).bind fun x5 =>
    (gfI 6 16 z3.2 a0).bind fun x6 =>
    if x5 = 0 then
      (pfV 6 16 z3.2 a0 (.int (x6 + 0))).bind fun w7 =>
      (bck x5).bind fun u8 =>
      some (x5, w7)
    else
      (pfV 6 16 z3.2 a0 (.int (x6 + 1))).bind fun w9 =>
      (bck x5).bind fun u10 =>
      some (x5, w9)
def m_X7_reads_p79 (n : Nat) : Nat → Wd → Nat → Int32 → Int32 → Int32 → Option (Int32 × Wd)
  | 0, _, _, _, _, _ => none
  | t + 1, w, a0, a2, a3, a4 =>
    if a2 ≤ a4 then
      m_X7_reads_p102 n w a0 a3
    else
      if a3 = 0 then
        m_X7_reads_p102 n w a0 a3
      else
        (chk 6 w a0).bind fun u1 =>
        (m_X7_readsNumber n w a0 a4).bind fun z2 =>
        m_X7_reads_p79 n t z2.2 a0 a2 z2.1 (a4 + 1)
def m_X7_reads_p29 (n : Nat) (w : Wd) (a0 : Nat) (a1 : Int32) : Option (Int32 × Wd) :=
  (chk 6 w a0).bind fun u1 =>
  (m_X7_wordFrom n w a0 a1).bind fun x2 =>
  (pfV 6 17 w a0 (.int x2)).bind fun w3 =>
  (gfI 6 17 w3 a0).bind fun x4 =>
  if x4 = 0 then
    (pfV 6 16 w3 a0 (.int a1)).bind fun w7 =>
    some (0, w7)
  else
    (gfI 6 17 w3 a0).bind fun x5 =>
    if x5 = 3 then
      m_X7_reads_p79 n n w3 a0 1 1 0
    else
      (gfI 6 17 w3 a0).bind fun x6 =>
      if x6 = 5 then
        m_X7_reads_p79 n n w3 a0 1 1 0
      else
        m_X7_reads_p79 n n w3 a0 3 1 0
def m_X7_reads_p5 (n : Nat) : Nat → Wd → Nat → Int32 → Option (Int32 × Wd)
  | 0, _, _, _ => none
  | t + 1, w, a0, a1 =>
    (chk 6 w a0).bind fun u1 =>
    (m_X7_isAt n w a0 97 122).bind fun x2 =>
    if x2 = 0 then
      m_X7_reads_p29 n w a0 a1
    else
      (gfI 6 16 w a0).bind fun x3 =>
      (pfV 6 16 w a0 (.int (x3 + 1))).bind fun w4 =>
      m_X7_reads_p5 n t w4 a0 a1
def m_X7_reads (n : Nat) (w : Wd) (this : Nat) : Option (Int32 × Wd) :=
  (gfI 6 16 w this).bind fun x1 =>
  m_X7_reads_p5 n n w this x1
def m_X7_does_p103 (n : Nat) (w : Wd) (s0 : Int32) (a0 : Nat) (a1 : Int32) (a2 : Int32) (a3 : Int32) : Option (Int32 × Wd) :=
  if s0 ≤ 0 then
    (gfI 6 17 w a0).bind fun x1 =>
    if x1 = 3 then
      (chk 6 w a0).bind fun u10 =>
      (m_X7_removes n w a0 a1).bind fun z11 =>
      if z11.1 < 0 then
        some (0, z11.2)
      else
        some (1, z11.2)
    else
      (gfI 6 17 w a0).bind fun x2 =>
      if x2 = 4 then
        (chk 6 w a0).bind fun u8 =>
        (m_X7_speeds n w a0 a1 a2 a3).bind fun z9 =>
        if z9.1 < 0 then
          some (0, z9.2)
        else
          some (1, z9.2)
      else
        (gfI 6 17 w a0).bind fun x3 =>
        if x3 = 5 then
          (chk 6 w a0).bind fun u6 =>
          (m_X7_passes n w a0 a1).bind fun z7 =>
          if z7.1 < 0 then
            some (0, z7.2)
          else
            some (1, z7.2)
        else
          (chk 6 w a0).bind fun u4 =>
          (m_X7_adds n w a0 a1 a2 a3).bind fun z5 =>
          if z5.1 < 0 then
            some (0, z5.2)
          else
            some (1, z5.2)
  else
    some (0, w)
def m_X7_does (n : Nat) (w : Wd) (this : Nat) : Option (Int32 × Wd) :=
  (gfR 6 18 w this).bind fun q1 =>
  (agI 0 w q1 0).bind fun x2 =>
  (gfR 6 18 w this).bind fun q3 =>
  (agI 0 w q3 1).bind fun x4 =>
  (gfR 6 18 w this).bind fun q5 =>
  (agI 0 w q5 2).bind fun x6 =>
  (gfI 6 17 w this).bind fun x7 =>
  if x7 = 1 then
    (chk 6 w this).bind fun u17 =>
    (m_X7_badAdd n w this x2 x4 x6).bind fun x18 =>
    m_X7_does_p103 n w x18 this x2 x4 x6
  else
    (gfI 6 17 w this).bind fun x8 =>
    if x8 = 2 then
      (chk 6 w this).bind fun u15 =>
      (m_X7_badMove n w this x2 x4 x6).bind fun x16 =>
      m_X7_does_p103 n w x16 this x2 x4 x6
    else
      (gfI 6 17 w this).bind fun x9 =>
      if x9 = 3 then
        (chk 6 w this).bind fun u13 =>
        (m_X7_badRemove n w this x2).bind fun x14 =>
        m_X7_does_p103 n w x14 this x2 x4 x6
      else
        (gfI 6 17 w this).bind fun x10 =>
        if x10 = 4 then
          (chk 6 w this).bind fun u11 =>
          (m_X7_badSpeed n w this x2 x4 x6).bind fun x12 =>
          m_X7_does_p103 n w x12 this x2 x4 x6
        else
          if (m_X7_areTicks x2) = 0 then
            m_X7_does_p103 n w 1 this x2 x4 x6
          else
            m_X7_does_p103 n w 0 this x2 x4 x6
def m_X7_run_p33 (n : Nat) (w : Wd) (a0 : Nat) : Option (Int32 × Wd) :=
  (gfI 6 16 w a0).bind fun x1 =>
  some (((-10) - x1), w)
def m_X7_run_p67 (n : Nat) : Nat → Wd → Nat → Int32 → Int32 → Option (Int32 × Wd)
  | 0, _, _, _, _ => none
  | t + 1, w, a0, a2, a3 =>
    (gfI 6 16 w a0).bind fun x1 =>
    (gfI 6 6 w a0).bind fun x2 =>
    if x2 ≤ x1 then
      some (a2, w)
    else
      if a3 = 0 then
        some (a2, w)
      else
        (chk 6 w a0).bind fun u3 =>
        (m_X7_reads n w a0).bind fun z4 =>
        if z4.1 = 0 then
          (chk 6 z4.2 a0).bind fun u5 =>
          (m_X7_skips n z4.2 a0).bind fun z6 =>
          m_X7_run_p67 n t z6.2 a0 (a2 + 0) 0
        else
          (chk 6 z4.2 a0).bind fun u7 =>
          (m_X7_does n z4.2 a0).bind fun z8 =>
          if z8.1 = 0 then
            (chk 6 z8.2 a0).bind fun u9 =>
            (m_X7_skips n z8.2 a0).bind fun z10 =>
            m_X7_run_p67 n t z10.2 a0 (a2 + 0) 0
          else
            (chk 6 z8.2 a0).bind fun u11 =>
            (m_X7_skips n z8.2 a0).bind fun z12 =>
            m_X7_run_p67 n t z12.2 a0 (a2 + 1) 1
def m_X7_run_p49 (n : Nat) (w : Wd) (a0 : Nat) : Option (Int32 × Wd) :=
  (chk 6 w a0).bind fun u1 =>
  (m_X7_saves n w a0).bind fun z2 =>
  (pfV 6 16 z2 a0 (.int 0)).bind fun w3 =>
  (chk 6 w3 a0).bind fun u4 =>
  (m_X7_skips n w3 a0).bind fun z5 =>
  m_X7_run_p67 n n z5.2 a0 0 1
def m_X7_run_p15 (n : Nat) : Nat → Wd → Nat → Option (Int32 × Wd)
  | 0, _, _ => none
  | t + 1, w, a0 =>
    (gfI 6 16 w a0).bind fun x1 =>
    (gfI 6 6 w a0).bind fun x2 =>
    if x2 ≤ x1 then
      m_X7_run_p49 n w a0
    else
      (chk 6 w a0).bind fun u3 =>
      (m_X7_reads n w a0).bind fun z4 =>
      if z4.1 = 0 then
        m_X7_run_p33 n z4.2 a0
      else
        (chk 6 z4.2 a0).bind fun u5 =>
        (m_X7_skips n z4.2 a0).bind fun z6 =>
        m_X7_run_p15 n t z6.2 a0
def m_X7_run (n : Nat) (w : Wd) (this : Nat) : Option (Int32 × Wd) :=
  (pfV 6 4 w this (.int 0)).bind fun w1 =>
  (pfV 6 16 w1 this (.int 0)).bind fun w2 =>
  (chk 6 w2 this).bind fun u3 =>
  (m_X7_skips n w2 this).bind fun z4 =>
  m_X7_run_p15 n n z4.2 this
def m_X7_time (n : Nat) (w : Wd) (this : Nat) : Option (Int32 × Wd) :=
  (pfV 6 4 w this (.int 0)).bind fun w1 =>
  (gfR 6 0 w1 this).bind fun q2 =>
  (agI 0 w1 q2 140).bind fun x3 =>
  some (x3, w1)
def m_X7_mix (n : Nat) (w : Wd) (this : Nat) (a1 : Int32) : Option Wd :=
  (gfJ 6 19 w this).bind fun x1 =>
  (pfV 6 19 w this (.long ((31 * x1) + (Int32.toInt64 a1)))).bind fun w2 =>
  some w2
def m_X7_mixNodes_p39 (n : Nat) (k2 : Wd → Nat → Int32 → Int32 → Option Wd) : Nat → Wd → Nat → Int32 → Int32 → Int32 → Option Wd
  | 0, _, _, _, _, _ => none
  | t + 1, w, a0, a1, a2, a3 =>
    if 4 ≤ a3 then
      k2 w a0 a1 (a2 + 1)
    else
      (chk 6 w a0).bind fun u1 =>
      (m_X7_tellChild n w a0 a1 a2 a3).bind fun z2 =>
      (chk 6 z2.2 a0).bind fun u3 =>
      (m_X7_mix n z2.2 a0 z2.1).bind fun z4 =>
      m_X7_mixNodes_p39 n k2 t z4 a0 a1 a2 (a3 + 1)
def m_X7_mixNodes_p37 (n : Nat) (k2 : Wd → Nat → Int32 → Int32 → Option Wd) (w : Wd) (a0 : Nat) (a1 : Int32) (a2 : Int32) : Option Wd :=
  m_X7_mixNodes_p39 n k2 n w a0 a1 a2 0
def m_X7_mixNodes_p14 (n : Nat) (k2 : Wd → Nat → Int32 → Int32 → Option Wd) : Nat → Wd → Nat → Int32 → Int32 → Int32 → Option Wd
  | 0, _, _, _, _, _ => none
  | t + 1, w, a0, a1, a2, a3 =>
    if 6 ≤ a3 then
      m_X7_mixNodes_p37 n k2 w a0 a1 a2
    else
      (chk 6 w a0).bind fun u1 =>
      (m_X7_tellNode n w a0 a1 a2 a3).bind fun z2 =>
      (chk 6 z2.2 a0).bind fun u3 =>
      (m_X7_mix n z2.2 a0 z2.1).bind fun z4 =>
      m_X7_mixNodes_p14 n k2 t z4 a0 a1 a2 (a3 + 1)
def m_X7_mixNodes_p2 (n : Nat) : Nat → Wd → Nat → Int32 → Int32 → Option Wd
  | 0, _, _, _, _ => none
  | t + 1, w, a0, a1, a2 =>
    (gfR 6 8 w a0).bind fun q1 =>
    (agI 0 w q1 a1).bind fun x2 =>
    if x2 ≤ a2 then
      some w
    else
      m_X7_mixNodes_p14 n (fun w b0 b1 b2 => m_X7_mixNodes_p2 n t w b0 b1 b2) n w a0 a1 a2 0
def m_X7_mixNodes (n : Nat) (w : Wd) (this : Nat) (a1 : Int32) : Option Wd :=
  m_X7_mixNodes_p2 n n w this a1 0
def m_X7_digest_p54 (n : Nat) (k46 : Wd → Nat → Int32 → Option (Int64 × Wd)) : Nat → Wd → Nat → Int32 → Int32 → Option (Int64 × Wd)
  | 0, _, _, _, _ => none
  | t + 1, w, a0, a1, a2 =>
    if 6 ≤ a2 then
      k46 w a0 (a1 + 1)
    else
      (chk 6 w a0).bind fun u1 =>
      (m_X7_tellPoint n w a0 a1 a2).bind fun x2 =>
      (chk 6 w a0).bind fun u3 =>
      (m_X7_mix n w a0 x2).bind fun z4 =>
      m_X7_digest_p54 n k46 t z4 a0 a1 (a2 + 1)
def m_X7_digest_p112 (n : Nat) (k84 : Wd → Nat → Int32 → Option (Int64 × Wd)) (w : Wd) (a0 : Nat) (a1 : Int32) : Option (Int64 × Wd) :=
  (chk 6 w a0).bind fun u1 =>
  (m_X7_mixNodes n w a0 a1).bind fun z2 =>
  k84 z2 a0 (a1 + 1)
def m_X7_digest_p91 (n : Nat) (k84 : Wd → Nat → Int32 → Option (Int64 × Wd)) : Nat → Wd → Nat → Int32 → Int32 → Option (Int64 × Wd)
  | 0, _, _, _, _ => none
  | t + 1, w, a0, a1, a2 =>
    if 5 ≤ a2 then
      m_X7_digest_p112 n k84 w a0 a1
    else
      (chk 6 w a0).bind fun u1 =>
      (m_X7_tellLevel n w a0 a1 a2).bind fun z2 =>
      (chk 6 z2.2 a0).bind fun u3 =>
      (m_X7_mix n z2.2 a0 z2.1).bind fun z4 =>
      m_X7_digest_p91 n k84 t z4 a0 a1 (a2 + 1)
def m_X7_digest_p150 (n : Nat) (k143 : Wd → Nat → Int32 → Option (Int64 × Wd)) : Nat → Wd → Nat → Int32 → Int32 → Option (Int64 × Wd)
  | 0, _, _, _, _ => none
  | t + 1, w, a0, a1, a2 =>
    if 6 ≤ a2 then
      k143 w a0 (a1 + 1)
    else
      (chk 6 w a0).bind fun u1 =>
      (m_X7_tellCursor n w a0 a1 a2).bind fun x2 =>
      (chk 6 w a0).bind fun u3 =>
      (m_X7_mix n w a0 x2).bind fun z4 =>
      m_X7_digest_p150 n k143 t z4 a0 a1 (a2 + 1)
def m_X7_digest_p180 (n : Nat) : Nat → Wd → Nat → Int32 → Option (Int64 × Wd)
  | 0, _, _, _ => none
  | t + 1, w, a0, a1 =>
    if 3 ≤ a1 then
      (gfJ 6 19 w a0).bind fun x1 =>
      some (x1, w)
    else
      (chk 6 w a0).bind fun u2 =>
      (m_X7_tellClosest n w a0 a1).bind fun x3 =>
      (chk 6 w a0).bind fun u4 =>
      (m_X7_mix n w a0 x3).bind fun z5 =>
      m_X7_digest_p180 n t z5 a0 (a1 + 1)
def m_X7_digest_p178 (n : Nat) (w : Wd) (a0 : Nat) : Option (Int64 × Wd) :=
  m_X7_digest_p180 n n w a0 0
def m_X7_digest_p143 (n : Nat) : Nat → Wd → Nat → Int32 → Option (Int64 × Wd)
  | 0, _, _, _ => none
  | t + 1, w, a0, a1 =>
    if 4 ≤ a1 then
      m_X7_digest_p178 n w a0
    else
      m_X7_digest_p150 n (fun w b0 b1 => m_X7_digest_p143 n t w b0 b1) n w a0 a1 0
def m_X7_digest_p123 (n : Nat) (w : Wd) (a0 : Nat) : Option (Int64 × Wd) :=
  (chk 6 w a0).bind fun u1 =>
  (m_X7_most n w a0 1).bind fun z2 =>
  (chk 6 z2.2 a0).bind fun u3 =>
  (m_X7_mix n z2.2 a0 z2.1).bind fun z4 =>
  (chk 6 z4 a0).bind fun u5 =>
  (m_X7_most n z4 a0 0).bind fun z6 =>
  (chk 6 z6.2 a0).bind fun u7 =>
  (m_X7_mix n z6.2 a0 z6.1).bind fun z8 =>
  m_X7_digest_p143 n n z8 a0 0
def m_X7_digest_p84 (n : Nat) : Nat → Wd → Nat → Int32 → Option (Int64 × Wd)
  | 0, _, _, _ => none
  | t + 1, w, a0, a1 =>
    if 5 ≤ a1 then
      m_X7_digest_p123 n w a0
    else
      m_X7_digest_p91 n (fun w b0 b1 => m_X7_digest_p84 n t w b0 b1) n w a0 a1 0
def m_X7_digest_p82 (n : Nat) (w : Wd) (a0 : Nat) : Option (Int64 × Wd) :=
  m_X7_digest_p84 n n w a0 0
def m_X7_digest_p46 (n : Nat) : Nat → Wd → Nat → Int32 → Option (Int64 × Wd)
  | 0, _, _, _ => none
  | t + 1, w, a0, a1 =>
    if 24 ≤ a1 then
      m_X7_digest_p82 n w a0
    else
      m_X7_digest_p54 n (fun w b0 b1 => m_X7_digest_p46 n t w b0 b1) n w a0 a1 0
def m_X7_digest (n : Nat) (w : Wd) (this : Nat) : Option (Int64 × Wd) :=
  (pfV 6 4 w this (.int 0)).bind fun w1 =>
  (chk 6 w1 this).bind fun u2 =>
  (m_X7_lays n w1 this).bind fun z3 =>
  (pfV 6 19 z3 this (.long 19606)).bind fun w4 =>
  (gfI 6 3 w4 this).bind fun x5 =>
  (chk 6 w4 this).bind fun u6 =>
  (m_X7_mix n w4 this x5).bind fun z7 =>
  (gfI 6 6 z7 this).bind fun x8 =>
  (chk 6 z7 this).bind fun u9 =>
  (m_X7_mix n z7 this x8).bind fun z10 =>
  (gfR 6 0 z10 this).bind fun q11 =>
  (agI 0 z10 q11 140).bind fun x12 =>
  (chk 6 z10 this).bind fun u13 =>
  (m_X7_mix n z10 this x12).bind fun z14 =>
  m_X7_digest_p46 n n z14 this 0
