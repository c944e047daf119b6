def m_L_law_p365 (L : Nat) (xs : Nat → Int32) (n : Nat) (k32 : Wd → Nat → Nat → Int32 → Int32 → Option (Int32 × Wd)) (w : Wd) (a0 : Nat) (a1 : Nat) (a2 : Int32) (a3 : Int32) (a5 : Int32) : Option (Int32 × Wd) :=
  if a2 = 0 then
    k32 w a0 a1 0 (a3 + 1)
  else
    (m_L_areSearches n w a1 (jrm (a5 / 7) 64) (jrm (a5 / 448) 64)).bind fun x1 =>
    if x1 = 0 then
      k32 w a0 a1 0 (a3 + 1)
    else
      (m_L_isMoved n w a1 (jrm (a5 / 3) 24) (jrm (a5 / 72) 64) (jrm (a5 / 4608) 64)).bind fun z2 =>
      if z2.1 = 0 then
        k32 z2.2 a0 a1 0 (a3 + 1)
      else
        (m_L_isClosest n z2.2 a1).bind fun x3 =>
        if x3 = 0 then
          k32 z2.2 a0 a1 0 (a3 + 1)
        else
          if (jrm a3 4) = 2 then
            (m_L_isGone n z2.2 a1 (jrm a5 4) (jrm (a5 / 5) 64) (jrm (a5 / 320) 64)).bind fun z5 =>
            if z5.1 = 0 then
              k32 z5.2 a0 a1 0 (a3 + 1)
            else
              if (jrm a3 5) = 3 then
                (m_L_refused n z5.2 a1).bind fun z6 =>
                if z6.1 = 0 then
                  k32 z6.2 a0 a1 0 (a3 + 1)
                else
                  k32 z6.2 a0 a1 1 (a3 + 1)
              else
                k32 z5.2 a0 a1 1 (a3 + 1)
          else
            if (jrm a3 5) = 3 then
              (m_L_refused n z2.2 a1).bind fun z4 =>
              if z4.1 = 0 then
                k32 z4.2 a0 a1 0 (a3 + 1)
              else
                k32 z4.2 a0 a1 1 (a3 + 1)
            else
              k32 z2.2 a0 a1 1 (a3 + 1)
def m_L_law_p342 (L : Nat) (xs : Nat → Int32) (n : Nat) (k32 : Wd → Nat → Nat → Int32 → Int32 → Option (Int32 × Wd)) : Nat → Wd → Nat → Nat → Int32 → Int32 → Int32 → Int32 → Option (Int32 × Wd)
  | 0, _, _, _, _, _, _, _ => none
  | t + 1, w, a0, a1, a2, a3, a5, a10 =>
    if 5 ≤ a10 then
      m_L_law_p365 L xs n k32 w a0 a1 a2 a3 a5
    else
      if a2 = 0 then
        m_L_law_p365 L xs n k32 w a0 a1 a2 a3 a5
      else
        (m_L_areNodes n w a1 a10).bind fun x1 =>
        m_L_law_p342 L xs n k32 t w a0 a1 x1 a3 a5 (a10 + 1)
def m_L_law_p291 (L : Nat) (xs : Nat → Int32) (n : Nat) (k32 : Wd → Nat → Nat → Int32 → Int32 → Option (Int32 × Wd)) (w : Wd) (a0 : Nat) (a1 : Nat) (a3 : Int32) (a4 : Int32) (a5 : Int32) (a7 : Int64) (a9 : Int32) : Option (Int32 × Wd) :=
  if a9 < 0 then
    m_L_law_p342 L xs n k32 n w a0 a1 1 a3 a5 0
  else
    if ((a4 >>> (25 &&& 31 : Int32)) &&& 3) = 0 then
      (m_L_undo n w a1).bind fun z1 =>
      if z1.1 < 0 then
        m_L_law_p342 L xs n k32 n z1.2 a0 a1 0 a3 a5 0
      else
        (m_L_print n z1.2 a1).bind fun z2 =>
        if (lg_cmp z2 a7) = 0 then
          m_L_law_p342 L xs n k32 n z1.2 a0 a1 1 a3 a5 0
        else
          m_L_law_p342 L xs n k32 n z1.2 a0 a1 0 a3 a5 0
    else
      m_L_law_p342 L xs n k32 n w a0 a1 1 a3 a5 0
def m_L_law_p279 (L : Nat) (xs : Nat → Int32) (n : Nat) (k32 : Wd → Nat → Nat → Int32 → Int32 → Option (Int32 × Wd)) (w : Wd) (a0 : Nat) (a1 : Nat) (a3 : Int32) (a4 : Int32) (a5 : Int32) (a7 : Int64) (a9 : Int32) : Option (Int32 × Wd) :=
  if 0 ≤ a9 then
    m_L_law_p291 L xs n k32 w a0 a1 a3 a4 a5 a7 a9
  else
    if a9 = -5000002 then
      m_L_law_p291 L xs n k32 w a0 a1 a3 a4 a5 a7 a9
    else
      m_L_law_p342 L xs n k32 n w a0 a1 0 a3 a5 0
def m_L_law_p491 (L : Nat) (xs : Nat → Int32) (n : Nat) (w : Wd) (a1 : Nat) (a2 : Int32) : Option (Int32 × Wd) :=
  if a2 = 0 then
    some (0, w)
  else
    (m_L_refused n w a1).bind fun z1 =>
    if z1.1 = 0 then
      some (0, z1.2)
    else
      some (1, z1.2)
def m_L_law_p32 (L : Nat) (xs : Nat → Int32) (n : Nat) : Nat → Wd → Nat → Nat → Int32 → Int32 → Option (Int32 × Wd)
  | 0, _, _, _, _, _ => none
  | t + 1, w, a0, a1, a2, a3 =>
    if 16 ≤ a3 then
      m_L_law_p491 L xs n w a1 a2
    else
      if a2 = 0 then
        m_L_law_p491 L xs n w a1 a2
      else
        (cellO L xs a3).bind fun x1 =>
        (m_L_low n w (x1 >>> (4 &&& 31 : Int32)) 10000000).bind fun x2 =>
        (m_L_print n w a1).bind fun z3 =>
        (m_L_low n w x1 8).bind fun x4 =>
        if x4 = 0 then
          (remI (x2 / 24) (24 - (jrm x2 24))).bind fun x6 =>
          (m_L_scatter n w a1 (jrm x2 24) (1 + x6) (1 + (jrm (x2 / 500) 64)) (jrm x2 1000000)).bind fun z7 =>
          m_L_law_p279 L xs n (fun w b0 b1 b2 b3 => m_L_law_p32 L xs n t w b0 b1 b2 b3) z7.2 a0 a1 a3 x1 x2 z3 z7.1
        else if x4 = 1 then
          (remI (x2 / 24) (24 - (jrm x2 24))).bind fun x9 =>
          (m_L_scatter n w a1 (jrm x2 24) (1 + x9) (1 + (jrm (x2 / 500) 64)) (jrm x2 1000000)).bind fun z10 =>
          m_L_law_p279 L xs n (fun w b0 b1 b2 b3 => m_L_law_p32 L xs n t w b0 b1 b2 b3) z10.2 a0 a1 a3 x1 x2 z3 z10.1
        else if x4 = 2 then
          (m_L_add n w a1 (jrm x2 24) (jrm (x2 / 24) 64) (jrm (x2 / 1536) 64)).bind fun z12 =>
          m_L_law_p279 L xs n (fun w b0 b1 b2 b3 => m_L_law_p32 L xs n t w b0 b1 b2 b3) z12.2 a0 a1 a3 x1 x2 z3 z12.1
        else if x4 = 3 then
          (m_L_remove n w a1 (jrm x2 24)).bind fun z14 =>
          m_L_law_p279 L xs n (fun w b0 b1 b2 b3 => m_L_law_p32 L xs n t w b0 b1 b2 b3) z14.2 a0 a1 a3 x1 x2 z3 z14.1
        else if x4 = 4 then
          (m_L_setVelocity n w a1 (jrm x2 24) ((jrm (x2 / 24) 19) - 9) ((jrm (x2 / 456) 19) - 9)).bind fun z16 =>
          m_L_law_p279 L xs n (fun w b0 b1 b2 b3 => m_L_law_p32 L xs n t w b0 b1 b2 b3) z16.2 a0 a1 a3 x1 x2 z3 z16.1
        else if x4 = 5 then
          (m_L_setVelocity n w a1 (jrm x2 24) ((jrm (x2 / 24) 19) - 9) ((jrm (x2 / 456) 19) - 9)).bind fun z18 =>
          m_L_law_p279 L xs n (fun w b0 b1 b2 b3 => m_L_law_p32 L xs n t w b0 b1 b2 b3) z18.2 a0 a1 a3 x1 x2 z3 z18.1
        else if x4 = 6 then
          (m_L_tick n w a1 (1 + (jrm x2 9))).bind fun z20 =>
          m_L_law_p279 L xs n (fun w b0 b1 b2 b3 => m_L_law_p32 L xs n t w b0 b1 b2 b3) z20.2 a0 a1 a3 x1 x2 z3 z20.1
        else 
          (m_L_open n w a1 (jrm x2 4) (jrm (x2 / 4) 64) (jrm (x2 / 256) 64)).bind fun z21 =>
          m_L_law_p279 L xs n (fun w b0 b1 b2 b3 => m_L_law_p32 L xs n t w b0 b1 b2 b3) z21.2 a0 a1 a3 x1 x2 z3 z21.1
def m_L_law_p8 (L : Nat) (xs : Nat → Int32) (n : Nat) (w : Wd) (a0 : Nat) (a1 : Nat) : Option (Int32 × Wd) :=
  (m_L_undo n w a1).bind fun z1 =>
  if z1.1 = -5000002 then
    (m_L_refused n z1.2 a1).bind fun z2 =>
    if z2.1 = 0 then
      m_L_law_p32 L xs n n z2.2 a0 a1 0 0
    else
      m_L_law_p32 L xs n n z2.2 a0 a1 1 0
  else
    m_L_law_p32 L xs n n z1.2 a0 a1 0 0
