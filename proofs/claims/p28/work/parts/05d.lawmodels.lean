def m_L_low (n : Nat) (w : Wd) (a0 : Int32) (a1 : Int32) : Option Int32 :=
  (remI (a0 &&& 2147483647) a1).bind fun x1 =>
  some x1
def m_L_print_p28 (n : Nat) (k19 : Wd → Nat → Int64 → Int32 → Option Int64) : Nat → Wd → Nat → Int64 → Int32 → Int32 → Option Int64
  | 0, _, _, _, _, _ => none
  | t + 1, w, a0, a1, a3, a4 =>
    if 5 ≤ a4 then
      k19 w a0 a1 (a3 + 1)
    else
      (m_LX_point n w a0 a3 a4).bind fun x1 =>
      m_L_print_p28 n k19 t w a0 ((31 * a1) + (Int32.toInt64 x1)) a3 (a4 + 1)
def m_L_print_p71 (n : Nat) (k63 : Wd → Nat → Int64 → Int32 → Option Int64) : Nat → Wd → Nat → Int64 → Int32 → Int32 → Option Int64
  | 0, _, _, _, _, _ => none
  | t + 1, w, a0, a1, a3, a4 =>
    if 6 ≤ a4 then
      k63 w a0 a1 (a3 + 1)
    else
      (m_LX_cursor n w a0 a3 a4).bind fun x1 =>
      m_L_print_p71 n k63 t w a0 ((31 * a1) + (Int32.toInt64 x1)) a3 (a4 + 1)
def m_L_print_p115 (n : Nat) (k107 : Wd → Nat → Int64 → Int32 → Option Int64) : Nat → Wd → Nat → Int64 → Int32 → Int32 → Option Int64
  | 0, _, _, _, _, _ => none
  | t + 1, w, a0, a1, a3, a4 =>
    if 5 ≤ a4 then
      k107 w a0 a1 (a3 + 1)
    else
      (m_LX_level n w a0 a3 a4).bind fun x1 =>
      m_L_print_p115 n k107 t w a0 ((31 * a1) + (Int32.toInt64 x1)) a3 (a4 + 1)
def m_L_print_p148 (n : Nat) (w : Wd) (a0 : Nat) (a1 : Int64) : Option Int64 :=
  (m_LX_closest n w a0 0).bind fun x1 =>
  some ((31 * a1) + (Int32.toInt64 x1))
def m_L_print_p107 (n : Nat) : Nat → Wd → Nat → Int64 → Int32 → Option Int64
  | 0, _, _, _, _ => none
  | t + 1, w, a0, a1, a3 =>
    if 5 ≤ a3 then
      m_L_print_p148 n w a0 a1
    else
      m_L_print_p115 n (fun w b0 b1 b3 => m_L_print_p107 n t w b0 b1 b3) n w a0 a1 a3 0
def m_L_print_p105 (n : Nat) (w : Wd) (a0 : Nat) (a1 : Int64) : Option Int64 :=
  m_L_print_p107 n n w a0 a1 0
def m_L_print_p63 (n : Nat) : Nat → Wd → Nat → Int64 → Int32 → Option Int64
  | 0, _, _, _, _ => none
  | t + 1, w, a0, a1, a3 =>
    if 4 ≤ a3 then
      m_L_print_p105 n w a0 a1
    else
      m_L_print_p71 n (fun w b0 b1 b3 => m_L_print_p63 n t w b0 b1 b3) n w a0 a1 a3 0
def m_L_print_p61 (n : Nat) (w : Wd) (a0 : Nat) (a1 : Int64) : Option Int64 :=
  m_L_print_p63 n n w a0 a1 0
def m_L_print_p19 (n : Nat) : Nat → Wd → Nat → Int64 → Int32 → Option Int64
  | 0, _, _, _, _ => none
  | t + 1, w, a0, a1, a3 =>
    if 24 ≤ a3 then
      m_L_print_p61 n w a0 a1
    else
      m_L_print_p28 n (fun w b0 b1 b3 => m_L_print_p19 n t w b0 b1 b3) n w a0 a1 a3 0
def m_L_print (n : Nat) (w : Wd) (a0 : Nat) : Option Int64 :=
  (chk 5 w a0).bind fun u1 =>
  (m_X6_time n w a0).bind fun x2 =>
  (chk 5 w a0).bind fun u3 =>
  (m_X6_worst n w a0 1).bind fun x4 =>
  m_L_print_p19 n n w a0 ((31 * (Int32.toInt64 x2)) + (Int32.toInt64 x4)) 0
def m_L_refused_p157 (n : Nat) (w : Wd) (s0 : Int32) (a0 : Nat) (a1 : Int64) : Option (Int32 × Wd) :=
  if s0 = 0 then
    some (0, w)
  else
    (m_L_wouldTouch n w a0 24 0 0).bind fun z1 =>
    if z1.1 = -5000003 then
      (m_L_open n z1.2 a0 (-1) 0 0).bind fun z2 =>
      if z2.1 = -5000003 then
        (m_L_next n z2.2 a0 4).bind fun z3 =>
        if z3.1 = -5000003 then
          (m_L_cursor n z3.2 a0 4 0).bind fun z4 =>
          if z4.1 = -5000003 then
            (m_L_nearest n z4.2 a0 64 0 0).bind fun z5 =>
            if z5.1 = -5000001 then
              (m_L_within n z5.2 a0 (-1) 0 0 0).bind fun z6 =>
              if z6.1 = -5000001 then
                (m_L_closest n z6.2 a0 (-1)).bind fun z7 =>
                if z7.1 = -5000001 then
                  (m_L_type n z7.2 a0 500).bind fun z8 =>
                  if z8.1 = -5000001 then
                    (m_L_print n z8.2 a0).bind fun z9 =>
                    if (lg_cmp z9 a1) = 0 then
                      some (1, z8.2)
                    else
                      some (0, z8.2)
                  else
                    some (0, z8.2)
                else
                  some (0, z7.2)
              else
                some (0, z6.2)
            else
              some (0, z5.2)
          else
            some (0, z4.2)
        else
          some (0, z3.2)
      else
        some (0, z2.2)
    else
      some (0, z1.2)
def m_L_refused (n : Nat) (w : Wd) (a0 : Nat) : Option (Int32 × Wd) :=
  (m_L_print n w a0).bind fun z1 =>
  (m_L_add n w a0 99 0 0).bind fun z2 =>
  if z2.1 = -5000003 then
    (m_L_move n z2.2 a0 (-5) 0 0).bind fun z3 =>
    if z3.1 = -5000003 then
      (m_L_remove n z3.2 a0 24).bind fun z4 =>
      if z4.1 = -5000003 then
        (m_L_setVelocity n z4.2 a0 24 0 0).bind fun z5 =>
        if z5.1 = -5000003 then
          (m_L_tick n z5.2 a0 (-1)).bind fun z6 =>
          if z6.1 = -5000001 then
            (m_L_scatter n z6.2 a0 (-1) 1 1 1).bind fun z7 =>
            if z7.1 = -5000003 then
              (m_L_scatter n z7.2 a0 23 2 1 1).bind fun z8 =>
              if z8.1 = -5000001 then
                (m_L_point n z8.2 a0 (-1) 0).bind fun z9 =>
                if z9.1 = -5000003 then
                  (m_L_level n z9.2 a0 0 (-1)).bind fun z10 =>
                  if z10.1 = -5000001 then
                    (m_L_node n z10.2 a0 5 0 0).bind fun z11 =>
                    if z11.1 = -5000003 then
                      (m_L_child n z11.2 a0 0 24 0).bind fun z12 =>
                      if z12.1 = -5000003 then
                        (m_L_search n z12.2 a0 (-1) 0 0 0).bind fun z13 =>
                        if z13.1 = -5000001 then
                          m_L_refused_p157 n z13.2 1 a0 z1
                        else
                          m_L_refused_p157 n z13.2 0 a0 z1
                      else
                        m_L_refused_p157 n z12.2 0 a0 z1
                    else
                      m_L_refused_p157 n z11.2 0 a0 z1
                  else
                    m_L_refused_p157 n z10.2 0 a0 z1
                else
                  m_L_refused_p157 n z9.2 0 a0 z1
              else
                m_L_refused_p157 n z8.2 0 a0 z1
            else
              m_L_refused_p157 n z7.2 0 a0 z1
          else
            m_L_refused_p157 n z6.2 0 a0 z1
        else
          m_L_refused_p157 n z5.2 0 a0 z1
      else
        m_L_refused_p157 n z4.2 0 a0 z1
    else
      m_L_refused_p157 n z3.2 0 a0 z1
  else
    m_L_refused_p157 n z2.2 0 a0 z1
def m_L_indexOf_p6 (n : Nat) : Nat → Wd → Nat → Int32 → Int32 → Int32 → Int32 → Int32 → Int32 → Option Int32
  | 0, _, _, _, _, _, _, _, _ => none
  | t + 1, w, a0, a1, a2, a3, a4, a5, a6 =>
    (m_LX_level n w a0 a1 1).bind fun x1 =>
    if x1 ≤ a6 then
      some a5
    else
      (m_LX_node n w a0 a1 a6 0).bind fun x2 =>
      if x2 = a2 then
        (m_LX_node n w a0 a1 a6 1).bind fun x3 =>
        if x3 = a3 then
          (m_LX_node n w a0 a1 a6 2).bind fun x4 =>
          if x4 = a4 then
            m_L_indexOf_p6 n t w a0 a1 a2 a3 a4 a6 (a6 + 1)
          else
            m_L_indexOf_p6 n t w a0 a1 a2 a3 a4 a5 (a6 + 1)
        else
          m_L_indexOf_p6 n t w a0 a1 a2 a3 a4 a5 (a6 + 1)
      else
        m_L_indexOf_p6 n t w a0 a1 a2 a3 a4 a5 (a6 + 1)
def m_L_indexOf (n : Nat) (w : Wd) (a0 : Nat) (a1 : Int32) (a2 : Int32) (a3 : Int32) (a4 : Int32) : Option Int32 :=
  m_L_indexOf_p6 n n w a0 a1 a2 a3 a4 (-1) 0
def m_L_areNodes_p371 (n : Nat) (k107 : Wd → Nat → Int32 → Int32 → Int32 → Int32 → Int32 → Int32 → Option Int32) (k216 : Wd → Nat → Int32 → Int32 → Int32 → Int32 → Int32 → Int32 → Int32 → Int32 → Int32 → Int32 → Int32 → Option Int32) (w : Wd) (s0 : Int32) (s1 : Int32) (a0 : Nat) (a1 : Int32) (a2 : Int32) (a5 : Int32) (a7 : Int32) (a8 : Int32) (a9 : Int32) (a10 : Int32) (a11 : Int32) (a12 : Int32) (a13 : Int32) (a14 : Int32) (a15 : Int32) : Option Int32 :=
  if a13 < 0 then
    k216 w a0 a1 a2 1 a5 (s1 + s0) a7 a8 a9 a10 a11 (a12 + 1)
  else
    if a14 < (a8 + ((jrm a12 2) * (a10 / 2))) then
      k216 w a0 a1 a2 0 a5 (s1 + s0) a7 a8 a9 a10 a11 (a12 + 1)
    else
      if ((a8 + ((jrm a12 2) * (a10 / 2))) + (a10 / 2)) ≤ a14 then
        k216 w a0 a1 a2 0 a5 (s1 + s0) a7 a8 a9 a10 a11 (a12 + 1)
      else
        if a15 < (a9 + ((a12 / 2) * (a10 / 2))) then
          k216 w a0 a1 a2 0 a5 (s1 + s0) a7 a8 a9 a10 a11 (a12 + 1)
        else
          if ((a9 + ((a12 / 2) * (a10 / 2))) + (a10 / 2)) ≤ a15 then
            k216 w a0 a1 a2 0 a5 (s1 + s0) a7 a8 a9 a10 a11 (a12 + 1)
          else
            if 1000 ≤ a13 then
              k216 w a0 a1 a2 1 a5 (s1 + s0) a7 a8 a9 a10 a11 (a12 + 1)
            else
              if a13 ≤ a7 then
                k216 w a0 a1 a2 0 a5 (s1 + s0) a7 a8 a9 a10 a11 (a12 + 1)
              else
                (m_LX_node n w a0 a1 a13 3).bind fun x1 =>
                (m_LX_node n w a0 a1 a7 3).bind fun x2 =>
                if x1 = (x2 + 1) then
                  k216 w a0 a1 a2 1 a5 (s1 + s0) a7 a8 a9 a10 a11 (a12 + 1)
                else
                  k216 w a0 a1 a2 0 a5 (s1 + s0) a7 a8 a9 a10 a11 (a12 + 1)
def m_L_areNodes_p316 (n : Nat) (k107 : Wd → Nat → Int32 → Int32 → Int32 → Int32 → Int32 → Int32 → Option Int32) (k216 : Wd → Nat → Int32 → Int32 → Int32 → Int32 → Int32 → Int32 → Int32 → Int32 → Int32 → Int32 → Int32 → Option Int32) (w : Wd) (s0 : Int32) (a0 : Nat) (a1 : Int32) (a2 : Int32) (a5 : Int32) (a6 : Int32) (a7 : Int32) (a8 : Int32) (a9 : Int32) (a10 : Int32) (a11 : Int32) (a12 : Int32) (a13 : Int32) (a14 : Int32) : Option Int32 :=
  if 0 ≤ a13 then
    if a13 < 1000 then
      if a13 < 0 then
        m_L_areNodes_p371 n k107 k216 w 0 a6 a0 a1 a2 (a5 + 0) a7 a8 a9 a10 (a11 + 1) a12 a13 a14 s0
      else
        if 1000 ≤ a13 then
          m_L_areNodes_p371 n k107 k216 w 0 a6 a0 a1 a2 (a5 + 0) a7 a8 a9 a10 (a11 + 1) a12 a13 a14 s0
        else
          m_L_areNodes_p371 n k107 k216 w 1 a6 a0 a1 a2 (a5 + 0) a7 a8 a9 a10 (a11 + 1) a12 a13 a14 s0
    else
      if a13 < 0 then
        m_L_areNodes_p371 n k107 k216 w 0 a6 a0 a1 a2 (a5 + 1) a7 a8 a9 a10 (a11 + 1) a12 a13 a14 s0
      else
        if 1000 ≤ a13 then
          m_L_areNodes_p371 n k107 k216 w 0 a6 a0 a1 a2 (a5 + 1) a7 a8 a9 a10 (a11 + 1) a12 a13 a14 s0
        else
          m_L_areNodes_p371 n k107 k216 w 1 a6 a0 a1 a2 (a5 + 1) a7 a8 a9 a10 (a11 + 1) a12 a13 a14 s0
  else
    if a13 < 1000 then
      if a13 < 0 then
        m_L_areNodes_p371 n k107 k216 w 0 a6 a0 a1 a2 (a5 + 0) a7 a8 a9 a10 (a11 + 0) a12 a13 a14 s0
      else
        if 1000 ≤ a13 then
          m_L_areNodes_p371 n k107 k216 w 0 a6 a0 a1 a2 (a5 + 0) a7 a8 a9 a10 (a11 + 0) a12 a13 a14 s0
        else
          m_L_areNodes_p371 n k107 k216 w 1 a6 a0 a1 a2 (a5 + 0) a7 a8 a9 a10 (a11 + 0) a12 a13 a14 s0
    else
      if a13 < 0 then
        m_L_areNodes_p371 n k107 k216 w 0 a6 a0 a1 a2 (a5 + 1) a7 a8 a9 a10 (a11 + 0) a12 a13 a14 s0
      else
        if 1000 ≤ a13 then
          m_L_areNodes_p371 n k107 k216 w 0 a6 a0 a1 a2 (a5 + 1) a7 a8 a9 a10 (a11 + 0) a12 a13 a14 s0
        else
          m_L_areNodes_p371 n k107 k216 w 1 a6 a0 a1 a2 (a5 + 1) a7 a8 a9 a10 (a11 + 0) a12 a13 a14 s0
def m_L_areNodes_p506 (n : Nat) (k107 : Wd → Nat → Int32 → Int32 → Int32 → Int32 → Int32 → Int32 → Option Int32) (w : Wd) (a0 : Nat) (a1 : Int32) (a2 : Int32) (a4 : Int32) (a5 : Int32) (a6 : Int32) (a7 : Int32) (a11 : Int32) : Option Int32 :=
  if a4 = 0 then
    k107 w a0 a1 a2 0 a5 a6 (a7 + 1)
  else
    (m_LX_node n w a0 a1 a7 5).bind fun x1 =>
    if a11 = x1 then
      k107 w a0 a1 a2 1 a5 a6 (a7 + 1)
    else
      k107 w a0 a1 a2 0 a5 a6 (a7 + 1)
def m_L_areNodes_p216 (n : Nat) (k107 : Wd → Nat → Int32 → Int32 → Int32 → Int32 → Int32 → Int32 → Option Int32) : Nat → Wd → Nat → Int32 → Int32 → Int32 → Int32 → Int32 → Int32 → Int32 → Int32 → Int32 → Int32 → Int32 → Option Int32
  | 0, _, _, _, _, _, _, _, _, _, _, _, _, _ => none
  | t + 1, w, a0, a1, a2, a4, a5, a6, a7, a8, a9, a10, a11, a12 =>
    if 4 ≤ a12 then
      m_L_areNodes_p506 n k107 w a0 a1 a2 a4 a5 a6 a7 a11
    else
      if a4 = 0 then
        m_L_areNodes_p506 n k107 w a0 a1 a2 a4 a5 a6 a7 a11
      else
        (m_LX_child n w a0 a1 a7 a12).bind fun x1 =>
        if 0 ≤ x1 then
          if 1000 ≤ x1 then
            if 0 ≤ x1 then
              if 1000 ≤ x1 then
                m_L_areNodes_p316 n k107 (fun w b0 b1 b2 b4 b5 b6 b7 b8 b9 b10 b11 b12 => m_L_areNodes_p216 n k107 t w b0 b1 b2 b4 b5 b6 b7 b8 b9 b10 b11 b12) w ((x1 - 1000) / 64) a0 a1 a2 a5 a6 a7 a8 a9 a10 a11 a12 x1 (jrm (x1 - 1000) 64)
              else
                (m_LX_node n w a0 a1 x1 1).bind fun x2 =>
                m_L_areNodes_p316 n k107 (fun w b0 b1 b2 b4 b5 b6 b7 b8 b9 b10 b11 b12 => m_L_areNodes_p216 n k107 t w b0 b1 b2 b4 b5 b6 b7 b8 b9 b10 b11 b12) w x2 a0 a1 a2 a5 a6 a7 a8 a9 a10 a11 a12 x1 (jrm (x1 - 1000) 64)
            else
              m_L_areNodes_p316 n k107 (fun w b0 b1 b2 b4 b5 b6 b7 b8 b9 b10 b11 b12 => m_L_areNodes_p216 n k107 t w b0 b1 b2 b4 b5 b6 b7 b8 b9 b10 b11 b12) w a9 a0 a1 a2 a5 a6 a7 a8 a9 a10 a11 a12 x1 (jrm (x1 - 1000) 64)
          else
            (m_LX_node n w a0 a1 x1 0).bind fun x3 =>
            if 0 ≤ x1 then
              if 1000 ≤ x1 then
                m_L_areNodes_p316 n k107 (fun w b0 b1 b2 b4 b5 b6 b7 b8 b9 b10 b11 b12 => m_L_areNodes_p216 n k107 t w b0 b1 b2 b4 b5 b6 b7 b8 b9 b10 b11 b12) w ((x1 - 1000) / 64) a0 a1 a2 a5 a6 a7 a8 a9 a10 a11 a12 x1 x3
              else
                (m_LX_node n w a0 a1 x1 1).bind fun x4 =>
                m_L_areNodes_p316 n k107 (fun w b0 b1 b2 b4 b5 b6 b7 b8 b9 b10 b11 b12 => m_L_areNodes_p216 n k107 t w b0 b1 b2 b4 b5 b6 b7 b8 b9 b10 b11 b12) w x4 a0 a1 a2 a5 a6 a7 a8 a9 a10 a11 a12 x1 x3
            else
              m_L_areNodes_p316 n k107 (fun w b0 b1 b2 b4 b5 b6 b7 b8 b9 b10 b11 b12 => m_L_areNodes_p216 n k107 t w b0 b1 b2 b4 b5 b6 b7 b8 b9 b10 b11 b12) w a9 a0 a1 a2 a5 a6 a7 a8 a9 a10 a11 a12 x1 x3
        else
          if 0 ≤ x1 then
            if 1000 ≤ x1 then
              m_L_areNodes_p316 n k107 (fun w b0 b1 b2 b4 b5 b6 b7 b8 b9 b10 b11 b12 => m_L_areNodes_p216 n k107 t w b0 b1 b2 b4 b5 b6 b7 b8 b9 b10 b11 b12) w ((x1 - 1000) / 64) a0 a1 a2 a5 a6 a7 a8 a9 a10 a11 a12 x1 a8
            else
              (m_LX_node n w a0 a1 x1 1).bind fun x5 =>
              m_L_areNodes_p316 n k107 (fun w b0 b1 b2 b4 b5 b6 b7 b8 b9 b10 b11 b12 => m_L_areNodes_p216 n k107 t w b0 b1 b2 b4 b5 b6 b7 b8 b9 b10 b11 b12) w x5 a0 a1 a2 a5 a6 a7 a8 a9 a10 a11 a12 x1 a8
          else
            m_L_areNodes_p316 n k107 (fun w b0 b1 b2 b4 b5 b6 b7 b8 b9 b10 b11 b12 => m_L_areNodes_p216 n k107 t w b0 b1 b2 b4 b5 b6 b7 b8 b9 b10 b11 b12) w a9 a0 a1 a2 a5 a6 a7 a8 a9 a10 a11 a12 x1 a8
def m_L_areNodes_p537 (n : Nat) (w : Wd) (a0 : Nat) (a1 : Int32) (a2 : Int32) (a4 : Int32) (a5 : Int32) (a6 : Int32) : Option Int32 :=
  if a4 = 0 then
    some 0
  else
    if a6 = (a2 - 1) then
      (m_LX_level n w a0 a1 3).bind fun x1 =>
      if a5 = x1 then
        (m_LX_level n w a0 a1 4).bind fun x2 =>
        if a5 = x2 then
          some 1
        else
          some 0
      else
        some 0
    else
      some 0
def m_L_areNodes_p107 (n : Nat) : Nat → Wd → Nat → Int32 → Int32 → Int32 → Int32 → Int32 → Int32 → Option Int32
  | 0, _, _, _, _, _, _, _, _ => none
  | t + 1, w, a0, a1, a2, a4, a5, a6, a7 =>
    if a2 ≤ a7 then
      m_L_areNodes_p537 n w a0 a1 a2 a4 a5 a6
    else
      if a4 = 0 then
        m_L_areNodes_p537 n w a0 a1 a2 a4 a5 a6
      else
        (m_LX_node n w a0 a1 a7 0).bind fun x1 =>
        (m_LX_node n w a0 a1 a7 1).bind fun x2 =>
        (m_LX_node n w a0 a1 a7 2).bind fun x3 =>
        (remI x1 x3).bind fun x4 =>
        if x4 = 0 then
          (remI x2 x3).bind fun x5 =>
          if x5 = 0 then
            if a7 = 0 then
              if a1 = 0 then
                m_L_areNodes_p216 n (fun w b0 b1 b2 b4 b5 b6 b7 => m_L_areNodes_p107 n t w b0 b1 b2 b4 b5 b6 b7) n w a0 a1 a2 1 a5 a6 a7 x1 x2 x3 0 0
              else
                (m_L_indexOf n w a0 (a1 - 1) x1 x2 x3).bind fun x6 =>
                if x6 < a7 then
                  m_L_areNodes_p216 n (fun w b0 b1 b2 b4 b5 b6 b7 => m_L_areNodes_p107 n t w b0 b1 b2 b4 b5 b6 b7) n w a0 a1 a2 0 a5 a6 a7 x1 x2 x3 0 0
                else
                  m_L_areNodes_p216 n (fun w b0 b1 b2 b4 b5 b6 b7 => m_L_areNodes_p107 n t w b0 b1 b2 b4 b5 b6 b7) n w a0 a1 a2 1 a5 a6 a7 x1 x2 x3 0 0
            else
              (m_LX_node n w a0 a1 a7 5).bind fun x7 =>
              if x7 ≤ 1 then
                m_L_areNodes_p216 n (fun w b0 b1 b2 b4 b5 b6 b7 => m_L_areNodes_p107 n t w b0 b1 b2 b4 b5 b6 b7) n w a0 a1 a2 0 a5 a6 a7 x1 x2 x3 0 0
              else
                if a1 = 0 then
                  m_L_areNodes_p216 n (fun w b0 b1 b2 b4 b5 b6 b7 => m_L_areNodes_p107 n t w b0 b1 b2 b4 b5 b6 b7) n w a0 a1 a2 1 a5 a6 a7 x1 x2 x3 0 0
                else
                  (m_L_indexOf n w a0 (a1 - 1) x1 x2 x3).bind fun x8 =>
                  if x8 < a7 then
                    m_L_areNodes_p216 n (fun w b0 b1 b2 b4 b5 b6 b7 => m_L_areNodes_p107 n t w b0 b1 b2 b4 b5 b6 b7) n w a0 a1 a2 0 a5 a6 a7 x1 x2 x3 0 0
                  else
                    m_L_areNodes_p216 n (fun w b0 b1 b2 b4 b5 b6 b7 => m_L_areNodes_p107 n t w b0 b1 b2 b4 b5 b6 b7) n w a0 a1 a2 1 a5 a6 a7 x1 x2 x3 0 0
          else
            m_L_areNodes_p216 n (fun w b0 b1 b2 b4 b5 b6 b7 => m_L_areNodes_p107 n t w b0 b1 b2 b4 b5 b6 b7) n w a0 a1 a2 0 a5 a6 a7 x1 x2 x3 0 0
        else
          m_L_areNodes_p216 n (fun w b0 b1 b2 b4 b5 b6 b7 => m_L_areNodes_p107 n t w b0 b1 b2 b4 b5 b6 b7) n w a0 a1 a2 0 a5 a6 a7 x1 x2 x3 0 0
def m_L_areNodes_p95 (n : Nat) (w : Wd) (a0 : Nat) (a1 : Int32) (a2 : Int32) : Option Int32 :=
  m_L_areNodes_p107 n n w a0 a1 a2 0 0 0 0
def m_L_areNodes_p53 (n : Nat) (w : Wd) (a0 : Nat) (a1 : Int32) (a2 : Int32) (a3 : Int32) : Option Int32 :=
  (m_LX_level n w a0 a1 4).bind fun x1 =>
  if a3 < x1 then
    m_L_areNodes_p95 n w a0 a1 a2
  else
    if a1 = 0 then
      m_L_areNodes_p107 n n w a0 a1 a2 1 0 0 0
    else
      (m_LX_level n w a0 (a1 - 1) 0).bind fun x2 =>
      if x2 < a3 then
        m_L_areNodes_p95 n w a0 a1 a2
      else
        (m_LX_level n w a0 (a1 - 1) 1).bind fun x3 =>
        if x3 < a2 then
          m_L_areNodes_p95 n w a0 a1 a2
        else
          m_L_areNodes_p107 n n w a0 a1 a2 1 0 0 0
def m_L_areNodes (n : Nat) (w : Wd) (a0 : Nat) (a1 : Int32) : Option Int32 :=
  (m_LX_level n w a0 a1 1).bind fun x1 =>
  (m_LX_level n w a0 a1 0).bind fun x2 =>
  if x1 ≤ 0 then
    m_L_areNodes_p95 n w a0 a1 x1
  else
    (m_LX_node n w a0 a1 0 2).bind fun x3 =>
    if x3 = 64 then
      (m_LX_node n w a0 a1 0 4).bind fun x4 =>
      if x4 = x2 then
        if x2 < 2 then
          m_L_areNodes_p53 n w a0 a1 x1 x2
        else
          if (x2 + 1) ≤ x1 then
            m_L_areNodes_p95 n w a0 a1 x1
          else
            m_L_areNodes_p53 n w a0 a1 x1 x2
      else
        m_L_areNodes_p95 n w a0 a1 x1
    else
      m_L_areNodes_p95 n w a0 a1 x1
def m_L_areSearches_p241 (n : Nat) (w : Wd) (a0 : Nat) (a3 : Int32) : Option Int32 :=
  if a3 = 0 then
    some 0
  else
    (chk 5 w a0).bind fun u1 =>
    (m_X6_worst n w a0 0).bind fun x2 =>
    (m_LX_level n w a0 0 2).bind fun x3 =>
    if x3 < x2 then
      some 0
    else
      some 1
def m_L_areSearches_p152 (n : Nat) : Nat → Wd → Nat → Int32 → Int32 → Option Int32
  | 0, _, _, _, _ => none
  | t + 1, w, a0, a3, a5 =>
    if 24 ≤ a5 then
      m_L_areSearches_p241 n w a0 a3
    else
      if a3 = 0 then
        m_L_areSearches_p241 n w a0 a3
      else
        (m_LX_point n w a0 a5 0).bind fun x1 =>
        if x1 = 0 then
          m_L_areSearches_p152 n t w a0 1 (a5 + 1)
        else
          (m_LX_point n w a0 a5 1).bind fun x2 =>
          (m_LX_point n w a0 a5 2).bind fun x3 =>
          (m_LX_search n w a0 x2 x3 1 0).bind fun x4 =>
          (chk 5 w a0).bind fun u5 =>
          (m_X6_worst n w a0 1).bind fun x6 =>
          if x6 < x4 then
            m_L_areSearches_p152 n t w a0 0 (a5 + 1)
          else
            (m_LX_point n w a0 a5 1).bind fun x7 =>
            (m_LX_point n w a0 a5 2).bind fun x8 =>
            (m_LX_search n w a0 x7 x8 0 0).bind fun x9 =>
            (chk 5 w a0).bind fun u10 =>
            (m_X6_worst n w a0 0).bind fun x11 =>
            if x11 < x9 then
              m_L_areSearches_p152 n t w a0 0 (a5 + 1)
            else
              m_L_areSearches_p152 n t w a0 1 (a5 + 1)
def m_L_areSearches_p43 (n : Nat) (w : Wd) (s0 : Int32) (a0 : Nat) (a1 : Int32) (a2 : Int32) : Option Int32 :=
  (m_LX_search n w a0 a1 a2 0 1).bind fun x1 =>
  if s0 = 0 then
    m_L_areSearches_p152 n n w a0 0 0
  else
    (m_LX_node n w a0 0 x1 0).bind fun x2 =>
    if a1 < x2 then
      m_L_areSearches_p152 n n w a0 0 0
    else
      (m_LX_node n w a0 0 x1 1).bind fun x3 =>
      if a2 < x3 then
        m_L_areSearches_p152 n n w a0 0 0
      else
        (m_LX_node n w a0 0 x1 0).bind fun x4 =>
        (m_LX_node n w a0 0 x1 2).bind fun x5 =>
        if (x4 + x5) ≤ a1 then
          m_L_areSearches_p152 n n w a0 0 0
        else
          (m_LX_node n w a0 0 x1 1).bind fun x6 =>
          (m_LX_node n w a0 0 x1 2).bind fun x7 =>
          if (x6 + x7) ≤ a2 then
            m_L_areSearches_p152 n n w a0 0 0
          else
            (m_LX_search n w a0 a1 a2 0 0).bind fun x8 =>
            (m_LX_node n w a0 0 x1 3).bind fun x9 =>
            if x8 = x9 then
              m_L_areSearches_p152 n n w a0 1 0
            else
              m_L_areSearches_p152 n n w a0 0 0
def m_L_areSearches (n : Nat) (w : Wd) (a0 : Nat) (a1 : Int32) (a2 : Int32) : Option Int32 :=
  (m_LX_search n w a0 a1 a2 1 1).bind fun x1 =>
  (m_LX_search n w a0 a1 a2 0 1).bind fun x2 =>
  if x1 = x2 then
    (m_LX_search n w a0 a1 a2 1 2).bind fun x3 =>
    (m_LX_search n w a0 a1 a2 0 2).bind fun x4 =>
    if x3 = x4 then
      m_L_areSearches_p43 n w 1 a0 a1 a2
    else
      m_L_areSearches_p43 n w 0 a0 a1 a2
  else
    m_L_areSearches_p43 n w 0 a0 a1 a2
def m_L_isMoved_p156 (n : Nat) (w : Wd) (a2 : Int32) (a3 : Int32) (a6 : Int32) (a7 : Int32) (a8 : Int32) : Option (Int32 × Wd) :=
  some (0, w)
def m_L_isMoved (n : Nat) (w : Wd) (a0 : Nat) (a1 : Int32) (a2 : Int32) (a3 : Int32) : Option (Int32 × Wd) :=
  (m_L_print n w a0).bind fun z1 =>
  (m_L_wouldTouch n w a0 a1 a2 a3).bind fun z2 =>
  (m_LX_point n z2.2 a0 a1 0).bind fun x3 =>
  if x3 = 0 then
    if z2.1 = -5000002 then
      (m_L_print n z2.2 a0).bind fun z14 =>
      if (lg_cmp z14 z1) = 0 then
        some (1, z2.2)
      else
        some (0, z2.2)
    else
      some (0, z2.2)
  else
    (m_LX_point n z2.2 a0 a1 1).bind fun x4 =>
    (m_LX_point n z2.2 a0 a1 2).bind fun x5 =>
    (m_L_print n z2.2 a0).bind fun z6 =>
    if (lg_cmp z6 z1) = 0 then
      if z2.1 < 0 then
        m_L_isMoved_p156 n z2.2 a2 a3 z2.1 x4 x5
      else
        (m_LX_move n z2.2 a0 a1 a2 a3).bind fun z7 =>
        if z7.1 = z2.1 then
          (m_LX_wouldTouch n z7.2 a0 a1 x4 x5).bind fun z8 =>
          if z8.1 = z2.1 then
            (m_LX_move n z8.2 a0 a1 x4 x5).bind fun z9 =>
            if z9.1 = z2.1 then
              (m_L_print n z9.2 a0).bind fun z10 =>
              if (lg_cmp z10 z1) = 0 then
                (m_LX_undo n z9.2 a0).bind fun z11 =>
                if z11.1 < 0 then
                  m_L_isMoved_p156 n z11.2 a2 a3 z2.1 x4 x5
                else
                  (m_LX_undo n z11.2 a0).bind fun z12 =>
                  if z12.1 < 0 then
                    m_L_isMoved_p156 n z12.2 a2 a3 z2.1 x4 x5
                  else
                    (m_L_print n z12.2 a0).bind fun z13 =>
                    if (lg_cmp z13 z1) = 0 then
                      if x4 = a2 then
                        if x5 = a3 then
                          if z2.1 = 0 then
                            some (1, z12.2)
                          else
                            some (0, z12.2)
                        else
                          some (1, z12.2)
                      else
                        some (1, z12.2)
                    else
                      m_L_isMoved_p156 n z12.2 a2 a3 z2.1 x4 x5
              else
                m_L_isMoved_p156 n z9.2 a2 a3 z2.1 x4 x5
            else
              m_L_isMoved_p156 n z9.2 a2 a3 z2.1 x4 x5
          else
            m_L_isMoved_p156 n z8.2 a2 a3 z2.1 x4 x5
        else
          m_L_isMoved_p156 n z7.2 a2 a3 z2.1 x4 x5
    else
      m_L_isMoved_p156 n z2.2 a2 a3 z2.1 x4 x5
def m_L_isGone_p146 (n : Nat) (k58 : Wd → Nat → Int32 → Int32 → Int32 → Int32 → Int32 → Int32 → Int32 → Option (Int32 × Wd)) (w : Wd) (a0 : Nat) (a1 : Int32) (a2 : Int32) (a3 : Int32) (a4 : Int32) (a6 : Int32) (a7 : Int32) (a8 : Int32) : Option (Int32 × Wd) :=
  k58 w a0 a1 a2 a3 a4 0 (a6 ||| (1 <<< ((a8 &&& 31) &&& 31 : Int32))) (a7 + 1)
def m_L_isGone_p167 (n : Nat) (w : Wd) (a0 : Nat) (a1 : Int32) (a5 : Int32) : Option (Int32 × Wd) :=
  if a5 = 0 then
    some (0, w)
  else
    (m_LX_next n w a0 a1).bind fun z1 =>
    if z1.1 = (-1) then
      (m_LX_cursor n z1.2 a0 a1 4).bind fun x2 =>
      if x2 = 0 then
        (m_LX_undo n z1.2 a0).bind fun z3 =>
        if z3.1 < 0 then
          some (0, z3.2)
        else
          some (1, z3.2)
      else
        some (0, z1.2)
    else
      some (0, z1.2)
def m_L_isGone_p58 (n : Nat) : Nat → Wd → Nat → Int32 → Int32 → Int32 → Int32 → Int32 → Int32 → Int32 → Option (Int32 × Wd)
  | 0, _, _, _, _, _, _, _, _, _ => none
  | t + 1, w, a0, a1, a2, a3, a4, a5, a6, a7 =>
    if a4 ≤ a7 then
      m_L_isGone_p167 n w a0 a1 a5
    else
      if a5 = 0 then
        m_L_isGone_p167 n w a0 a1 a5
      else
        (m_LX_next n w a0 a1).bind fun z1 =>
        if z1.1 < 0 then
          m_L_isGone_p146 n (fun w b0 b1 b2 b3 b4 b5 b6 b7 => m_L_isGone_p58 n t w b0 b1 b2 b3 b4 b5 b6 b7) z1.2 a0 a1 a2 a3 a4 a6 a7 z1.1
        else
          (m_LX_nearest n z1.2 a0 a2 a3 a7).bind fun x2 =>
          if z1.1 = x2 then
            if ((a6 >>> (z1.1 &&& 31 : Int32)) &&& 1) = 0 then
              (m_LX_cursor n z1.2 a0 a1 3).bind fun x3 =>
              if x3 = z1.1 then
                (m_LX_cursor n z1.2 a0 a1 4).bind fun x4 =>
                if x4 = ((a4 - a7) - 1) then
                  (m_LX_cursor n z1.2 a0 a1 5).bind fun x5 =>
                  if x5 < 1 then
                    m_L_isGone_p146 n (fun w b0 b1 b2 b3 b4 b5 b6 b7 => m_L_isGone_p58 n t w b0 b1 b2 b3 b4 b5 b6 b7) z1.2 a0 a1 a2 a3 a4 a6 a7 z1.1
                  else
                    m_L_isGone_p58 n t z1.2 a0 a1 a2 a3 a4 1 (a6 ||| (1 <<< ((z1.1 &&& 31) &&& 31 : Int32))) (a7 + 1)
                else
                  m_L_isGone_p146 n (fun w b0 b1 b2 b3 b4 b5 b6 b7 => m_L_isGone_p58 n t w b0 b1 b2 b3 b4 b5 b6 b7) z1.2 a0 a1 a2 a3 a4 a6 a7 z1.1
              else
                m_L_isGone_p146 n (fun w b0 b1 b2 b3 b4 b5 b6 b7 => m_L_isGone_p58 n t w b0 b1 b2 b3 b4 b5 b6 b7) z1.2 a0 a1 a2 a3 a4 a6 a7 z1.1
            else
              m_L_isGone_p146 n (fun w b0 b1 b2 b3 b4 b5 b6 b7 => m_L_isGone_p58 n t w b0 b1 b2 b3 b4 b5 b6 b7) z1.2 a0 a1 a2 a3 a4 a6 a7 z1.1
          else
            m_L_isGone_p146 n (fun w b0 b1 b2 b3 b4 b5 b6 b7 => m_L_isGone_p58 n t w b0 b1 b2 b3 b4 b5 b6 b7) z1.2 a0 a1 a2 a3 a4 a6 a7 z1.1
def m_L_isGone (n : Nat) (w : Wd) (a0 : Nat) (a1 : Int32) (a2 : Int32) (a3 : Int32) : Option (Int32 × Wd) :=
  (m_LX_open n w a0 a1 a2 a3).bind fun z1 =>
  (m_LX_within n z1.2 a0 0 0 63 63).bind fun x2 =>
  if z1.1 = x2 then
    (m_LX_cursor n z1.2 a0 a1 4).bind fun x3 =>
    if x3 = z1.1 then
      (m_LX_cursor n z1.2 a0 a1 2).bind fun x4 =>
      if x4 = (-1) then
        m_L_isGone_p58 n n z1.2 a0 a1 a2 a3 z1.1 1 0 0
      else
        m_L_isGone_p58 n n z1.2 a0 a1 a2 a3 z1.1 0 0 0
    else
      m_L_isGone_p58 n n z1.2 a0 a1 a2 a3 z1.1 0 0 0
  else
    m_L_isGone_p58 n n z1.2 a0 a1 a2 a3 z1.1 0 0 0
def m_L_isClosest (n : Nat) (w : Wd) (a0 : Nat) : Option Int32 :=
  (m_LX_within n w a0 0 0 63 63).bind fun x1 =>
  (m_LX_closest n w a0 0).bind fun x2 =>
  (m_LX_closest n w a0 1).bind fun x3 =>
  (m_LX_closest n w a0 2).bind fun x4 =>
  if 2 ≤ x1 then
    (m_LX_point n w a0 x3 1).bind fun x5 =>
    (m_LX_point n w a0 x4 1).bind fun x6 =>
    (m_LX_point n w a0 x3 2).bind fun x7 =>
    (m_LX_point n w a0 x4 2).bind fun x8 =>
    if x4 ≤ x3 then
      some 0
    else
      if (((x5 - x6) * (x5 - x6)) + ((x7 - x8) * (x7 - x8))) = x2 then
        if x2 = 0 then
          (m_LX_level n w a0 0 4).bind fun x10 =>
          if x1 ≤ x10 then
            some 0
          else
            some 1
        else
          (m_LX_level n w a0 0 4).bind fun x9 =>
          if x1 ≤ x9 then
            some 1
          else
            some 0
      else
        some 0
  else
    if x2 = (-1) then
      if x3 = (-1) then
        if x4 = (-1) then
          some 1
        else
          some 0
      else
        some 0
    else
      some 0
