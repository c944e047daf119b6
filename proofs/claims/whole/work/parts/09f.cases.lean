def mc_0 (K : Nat → Nat) (n : Nat) (w : Wd) (x mo ou : Nat) (xs : Nat → Int32) (i : Int32) : Option Wd :=
  (m_L_add n w x (xs (Int32.toNatClampNeg (i + 1))) (xs (Int32.toNatClampNeg (i + 2))) (xs (Int32.toNatClampNeg (i + 3))) ou).bind fun z1 =>
  (chk 6 z1.2 mo).bind fun u2 =>
  (m_X7_add n z1.2 mo (xs (Int32.toNatClampNeg (i + 1))) (xs (Int32.toNatClampNeg (i + 2))) (xs (Int32.toNatClampNeg (i + 3)))).bind fun z3 =>
  (chk 6 z3.2 mo).bind fun u4 =>
  (m_X7_thrown n z3.2 mo).bind fun x5 =>
  if x5 = z1.1 then
    if z1.1 = 0 then
      (agJ z3.2 ou 0).bind fun x6 =>
      if (lg_cmp x6 (Int32.toInt64 z3.1)) = 0 then
        some z3.2
      else
        none
    else
      some z3.2
  else
    none
def mc_1 (K : Nat → Nat) (n : Nat) (w : Wd) (x mo ou : Nat) (xs : Nat → Int32) (i : Int32) : Option Wd :=
  (m_L_move n w x (xs (Int32.toNatClampNeg (i + 1))) (xs (Int32.toNatClampNeg (i + 2))) (xs (Int32.toNatClampNeg (i + 3))) ou).bind fun z1 =>
  (chk 6 z1.2 mo).bind fun u2 =>
  (m_X7_move n z1.2 mo (xs (Int32.toNatClampNeg (i + 1))) (xs (Int32.toNatClampNeg (i + 2))) (xs (Int32.toNatClampNeg (i + 3)))).bind fun z3 =>
  (chk 6 z3.2 mo).bind fun u4 =>
  (m_X7_thrown n z3.2 mo).bind fun x5 =>
  if x5 = z1.1 then
    if z1.1 = 0 then
      (agJ z3.2 ou 0).bind fun x6 =>
      if (lg_cmp x6 (Int32.toInt64 z3.1)) = 0 then
        some z3.2
      else
        none
    else
      some z3.2
  else
    none
def mc_2 (K : Nat → Nat) (n : Nat) (w : Wd) (x mo ou : Nat) (xs : Nat → Int32) (i : Int32) : Option Wd :=
  (m_L_remove n w x (xs (Int32.toNatClampNeg (i + 1))) ou).bind fun z1 =>
  (chk 6 z1.2 mo).bind fun u2 =>
  (m_X7_remove n z1.2 mo (xs (Int32.toNatClampNeg (i + 1)))).bind fun z3 =>
  (chk 6 z3.2 mo).bind fun u4 =>
  (m_X7_thrown n z3.2 mo).bind fun x5 =>
  if x5 = z1.1 then
    if z1.1 = 0 then
      (agJ z3.2 ou 0).bind fun x6 =>
      if (lg_cmp x6 (Int32.toInt64 z3.1)) = 0 then
        some z3.2
      else
        none
    else
      some z3.2
  else
    none
def mc_3 (K : Nat → Nat) (n : Nat) (w : Wd) (x mo ou : Nat) (xs : Nat → Int32) (i : Int32) : Option Wd :=
  (m_L_setVelocity n w x (xs (Int32.toNatClampNeg (i + 1))) (xs (Int32.toNatClampNeg (i + 2))) (xs (Int32.toNatClampNeg (i + 3))) ou).bind fun z1 =>
  (chk 6 z1.2 mo).bind fun u2 =>
  (m_X7_setVelocity n z1.2 mo (xs (Int32.toNatClampNeg (i + 1))) (xs (Int32.toNatClampNeg (i + 2))) (xs (Int32.toNatClampNeg (i + 3)))).bind fun z3 =>
  (chk 6 z3.2 mo).bind fun u4 =>
  (m_X7_thrown n z3.2 mo).bind fun x5 =>
  if x5 = z1.1 then
    if z1.1 = 0 then
      (agJ z3.2 ou 0).bind fun x6 =>
      if (lg_cmp x6 (Int32.toInt64 z3.1)) = 0 then
        some z3.2
      else
        none
    else
      some z3.2
  else
    none
def mc_4 (K : Nat → Nat) (n : Nat) (w : Wd) (x mo ou : Nat) (xs : Nat → Int32) (i : Int32) : Option Wd :=
  (m_L_tick n w x (xs (Int32.toNatClampNeg (i + 1))) ou).bind fun z1 =>
  (chk 6 z1.2 mo).bind fun u2 =>
  (m_X7_tick n z1.2 mo (xs (Int32.toNatClampNeg (i + 1)))).bind fun z3 =>
  (chk 6 z3.2 mo).bind fun u4 =>
  (m_X7_thrown n z3.2 mo).bind fun x5 =>
  if x5 = z1.1 then
    if z1.1 = 0 then
      (agJ z3.2 ou 0).bind fun x6 =>
      if (lg_cmp x6 (Int32.toInt64 z3.1)) = 0 then
        some z3.2
      else
        none
    else
      some z3.2
  else
    none
def mc_5 (K : Nat → Nat) (n : Nat) (w : Wd) (x mo ou : Nat) (xs : Nat → Int32) (i : Int32) : Option Wd :=
  (m_L_scatter n w x (xs (Int32.toNatClampNeg (i + 1))) (xs (Int32.toNatClampNeg (i + 2))) (xs (Int32.toNatClampNeg (i + 3))) (xs (Int32.toNatClampNeg (i + 4))) ou).bind fun z1 =>
  (chk 6 z1.2 mo).bind fun u2 =>
  (m_X7_scatter n z1.2 mo (xs (Int32.toNatClampNeg (i + 1))) (xs (Int32.toNatClampNeg (i + 2))) (xs (Int32.toNatClampNeg (i + 3))) (xs (Int32.toNatClampNeg (i + 4)))).bind fun z3 =>
  (chk 6 z3.2 mo).bind fun u4 =>
  (m_X7_thrown n z3.2 mo).bind fun x5 =>
  if x5 = z1.1 then
    if z1.1 = 0 then
      (agJ z3.2 ou 0).bind fun x6 =>
      if (lg_cmp x6 (Int32.toInt64 z3.1)) = 0 then
        some z3.2
      else
        none
    else
      some z3.2
  else
    none
def mc_6 (K : Nat → Nat) (n : Nat) (w : Wd) (x mo ou : Nat) (xs : Nat → Int32) (i : Int32) : Option Wd :=
  (m_L_point n w x (xs (Int32.toNatClampNeg (i + 1))) (xs (Int32.toNatClampNeg (i + 2))) ou).bind fun z1 =>
  (chk 6 z1.2 mo).bind fun u2 =>
  (m_X7_point n z1.2 mo (xs (Int32.toNatClampNeg (i + 1))) (xs (Int32.toNatClampNeg (i + 2)))).bind fun z3 =>
  (chk 6 z3.2 mo).bind fun u4 =>
  (m_X7_thrown n z3.2 mo).bind fun x5 =>
  if x5 = z1.1 then
    if z1.1 = 0 then
      (agJ z3.2 ou 0).bind fun x6 =>
      if (lg_cmp x6 (Int32.toInt64 z3.1)) = 0 then
        some z3.2
      else
        none
    else
      some z3.2
  else
    none
def mc_7 (K : Nat → Nat) (n : Nat) (w : Wd) (x mo ou : Nat) (xs : Nat → Int32) (i : Int32) : Option Wd :=
  (m_L_level n w x (xs (Int32.toNatClampNeg (i + 1))) (xs (Int32.toNatClampNeg (i + 2))) ou).bind fun z1 =>
  (chk 6 z1.2 mo).bind fun u2 =>
  (m_X7_level n z1.2 mo (xs (Int32.toNatClampNeg (i + 1))) (xs (Int32.toNatClampNeg (i + 2)))).bind fun z3 =>
  (chk 6 z3.2 mo).bind fun u4 =>
  (m_X7_thrown n z3.2 mo).bind fun x5 =>
  if x5 = z1.1 then
    if z1.1 = 0 then
      (agJ z3.2 ou 0).bind fun x6 =>
      if (lg_cmp x6 (Int32.toInt64 z3.1)) = 0 then
        some z3.2
      else
        none
    else
      some z3.2
  else
    none
def mc_8 (K : Nat → Nat) (n : Nat) (w : Wd) (x mo ou : Nat) (xs : Nat → Int32) (i : Int32) : Option Wd :=
  (m_L_node n w x (xs (Int32.toNatClampNeg (i + 1))) (xs (Int32.toNatClampNeg (i + 2))) (xs (Int32.toNatClampNeg (i + 3))) ou).bind fun z1 =>
  (chk 6 z1.2 mo).bind fun u2 =>
  (m_X7_node n z1.2 mo (xs (Int32.toNatClampNeg (i + 1))) (xs (Int32.toNatClampNeg (i + 2))) (xs (Int32.toNatClampNeg (i + 3)))).bind fun z3 =>
  (chk 6 z3.2 mo).bind fun u4 =>
  (m_X7_thrown n z3.2 mo).bind fun x5 =>
  if x5 = z1.1 then
    if z1.1 = 0 then
      (agJ z3.2 ou 0).bind fun x6 =>
      if (lg_cmp x6 (Int32.toInt64 z3.1)) = 0 then
        some z3.2
      else
        none
    else
      some z3.2
  else
    none
def mc_9 (K : Nat → Nat) (n : Nat) (w : Wd) (x mo ou : Nat) (xs : Nat → Int32) (i : Int32) : Option Wd :=
  (m_L_child n w x (xs (Int32.toNatClampNeg (i + 1))) (xs (Int32.toNatClampNeg (i + 2))) (xs (Int32.toNatClampNeg (i + 3))) ou).bind fun z1 =>
  (chk 6 z1.2 mo).bind fun u2 =>
  (m_X7_child n z1.2 mo (xs (Int32.toNatClampNeg (i + 1))) (xs (Int32.toNatClampNeg (i + 2))) (xs (Int32.toNatClampNeg (i + 3)))).bind fun z3 =>
  (chk 6 z3.2 mo).bind fun u4 =>
  (m_X7_thrown n z3.2 mo).bind fun x5 =>
  if x5 = z1.1 then
    if z1.1 = 0 then
      (agJ z3.2 ou 0).bind fun x6 =>
      if (lg_cmp x6 (Int32.toInt64 z3.1)) = 0 then
        some z3.2
      else
        none
    else
      some z3.2
  else
    none
def mc_10 (K : Nat → Nat) (n : Nat) (w : Wd) (x mo ou : Nat) (xs : Nat → Int32) (i : Int32) : Option Wd :=
  if (xs (Int32.toNatClampNeg (i + 3))) = 0 then
    (m_L_search n w x (xs (Int32.toNatClampNeg (i + 1))) (xs (Int32.toNatClampNeg (i + 2))) 0 (xs (Int32.toNatClampNeg (i + 4))) ou).bind fun z1 =>
    if (xs (Int32.toNatClampNeg (i + 3))) = 0 then
      (chk 6 z1.2 mo).bind fun u2 =>
      (m_X7_search n z1.2 mo (xs (Int32.toNatClampNeg (i + 1))) (xs (Int32.toNatClampNeg (i + 2))) 0 (xs (Int32.toNatClampNeg (i + 4)))).bind fun z3 =>
      (chk 6 z3.2 mo).bind fun u4 =>
      (m_X7_thrown n z3.2 mo).bind fun x5 =>
      if x5 = z1.1 then
        if z1.1 = 0 then
          (agJ z3.2 ou 0).bind fun x6 =>
          if (lg_cmp x6 (Int32.toInt64 z3.1)) = 0 then
            some z3.2
          else
            none
        else
          some z3.2
      else
        none
    else
      (chk 6 z1.2 mo).bind fun u7 =>
      (m_X7_search n z1.2 mo (xs (Int32.toNatClampNeg (i + 1))) (xs (Int32.toNatClampNeg (i + 2))) 1 (xs (Int32.toNatClampNeg (i + 4)))).bind fun z8 =>
      (chk 6 z8.2 mo).bind fun u9 =>
      (m_X7_thrown n z8.2 mo).bind fun x10 =>
      if x10 = z1.1 then
        if z1.1 = 0 then
          (agJ z8.2 ou 0).bind fun x11 =>
          if (lg_cmp x11 (Int32.toInt64 z8.1)) = 0 then
            some z8.2
          else
            none
        else
          some z8.2
      else
        none
  else
    (m_L_search n w x (xs (Int32.toNatClampNeg (i + 1))) (xs (Int32.toNatClampNeg (i + 2))) 1 (xs (Int32.toNatClampNeg (i + 4))) ou).bind fun z12 =>
    if (xs (Int32.toNatClampNeg (i + 3))) = 0 then
      (chk 6 z12.2 mo).bind fun u13 =>
      (m_X7_search n z12.2 mo (xs (Int32.toNatClampNeg (i + 1))) (xs (Int32.toNatClampNeg (i + 2))) 0 (xs (Int32.toNatClampNeg (i + 4)))).bind fun z14 =>
      (chk 6 z14.2 mo).bind fun u15 =>
      (m_X7_thrown n z14.2 mo).bind fun x16 =>
      if x16 = z12.1 then
        if z12.1 = 0 then
          (agJ z14.2 ou 0).bind fun x17 =>
          if (lg_cmp x17 (Int32.toInt64 z14.1)) = 0 then
            some z14.2
          else
            none
        else
          some z14.2
      else
        none
    else
      (chk 6 z12.2 mo).bind fun u18 =>
      (m_X7_search n z12.2 mo (xs (Int32.toNatClampNeg (i + 1))) (xs (Int32.toNatClampNeg (i + 2))) 1 (xs (Int32.toNatClampNeg (i + 4)))).bind fun z19 =>
      (chk 6 z19.2 mo).bind fun u20 =>
      (m_X7_thrown n z19.2 mo).bind fun x21 =>
      if x21 = z12.1 then
        if z12.1 = 0 then
          (agJ z19.2 ou 0).bind fun x22 =>
          if (lg_cmp x22 (Int32.toInt64 z19.1)) = 0 then
            some z19.2
          else
            none
        else
          some z19.2
      else
        none
def mc_11 (K : Nat → Nat) (n : Nat) (w : Wd) (x mo ou : Nat) (xs : Nat → Int32) (i : Int32) : Option Wd :=
  if (xs (Int32.toNatClampNeg (i + 1))) = 0 then
    (chk 5 w x).bind fun u1 =>
    (m_X6_worst n w x 0).bind fun x2 =>
    if (xs (Int32.toNatClampNeg (i + 1))) = 0 then
      (chk 6 w mo).bind fun u3 =>
      (m_X7_worst n w mo 0).bind fun z4 =>
      if x2 = z4.1 then
        some z4.2
      else
        none
    else
      (chk 6 w mo).bind fun u5 =>
      (m_X7_worst n w mo 1).bind fun z6 =>
      if x2 = z6.1 then
        some z6.2
      else
        none
  else
    (chk 5 w x).bind fun u7 =>
    (m_X6_worst n w x 1).bind fun x8 =>
    if (xs (Int32.toNatClampNeg (i + 1))) = 0 then
      (chk 6 w mo).bind fun u9 =>
      (m_X7_worst n w mo 0).bind fun z10 =>
      if x8 = z10.1 then
        some z10.2
      else
        none
    else
      (chk 6 w mo).bind fun u11 =>
      (m_X7_worst n w mo 1).bind fun z12 =>
      if x8 = z12.1 then
        some z12.2
      else
        none
def mc_12 (K : Nat → Nat) (n : Nat) (w : Wd) (x mo ou : Nat) (xs : Nat → Int32) (i : Int32) : Option Wd :=
  (m_L_wouldTouch n w x (xs (Int32.toNatClampNeg (i + 1))) (xs (Int32.toNatClampNeg (i + 2))) (xs (Int32.toNatClampNeg (i + 3))) ou).bind fun z1 =>
  (chk 6 z1.2 mo).bind fun u2 =>
  (m_X7_wouldTouch n z1.2 mo (xs (Int32.toNatClampNeg (i + 1))) (xs (Int32.toNatClampNeg (i + 2))) (xs (Int32.toNatClampNeg (i + 3)))).bind fun z3 =>
  (chk 6 z3.2 mo).bind fun u4 =>
  (m_X7_thrown n z3.2 mo).bind fun x5 =>
  if x5 = z1.1 then
    if z1.1 = 0 then
      (agJ z3.2 ou 0).bind fun x6 =>
      if (lg_cmp x6 (Int32.toInt64 z3.1)) = 0 then
        some z3.2
      else
        none
    else
      some z3.2
  else
    none
def mc_13 (K : Nat → Nat) (n : Nat) (w : Wd) (x mo ou : Nat) (xs : Nat → Int32) (i : Int32) : Option Wd :=
  (m_L_open n w x (xs (Int32.toNatClampNeg (i + 1))) (xs (Int32.toNatClampNeg (i + 2))) (xs (Int32.toNatClampNeg (i + 3))) ou).bind fun z1 =>
  (chk 6 z1.2 mo).bind fun u2 =>
  (m_X7_open n z1.2 mo (xs (Int32.toNatClampNeg (i + 1))) (xs (Int32.toNatClampNeg (i + 2))) (xs (Int32.toNatClampNeg (i + 3)))).bind fun z3 =>
  (chk 6 z3.2 mo).bind fun u4 =>
  (m_X7_thrown n z3.2 mo).bind fun x5 =>
  if x5 = z1.1 then
    if z1.1 = 0 then
      (agJ z3.2 ou 0).bind fun x6 =>
      if (lg_cmp x6 (Int32.toInt64 z3.1)) = 0 then
        some z3.2
      else
        none
    else
      some z3.2
  else
    none
def mc_14 (K : Nat → Nat) (n : Nat) (w : Wd) (x mo ou : Nat) (xs : Nat → Int32) (i : Int32) : Option Wd :=
  (m_L_next n w x (xs (Int32.toNatClampNeg (i + 1))) ou).bind fun z1 =>
  (chk 6 z1.2 mo).bind fun u2 =>
  (m_X7_next n z1.2 mo (xs (Int32.toNatClampNeg (i + 1)))).bind fun z3 =>
  (chk 6 z3.2 mo).bind fun u4 =>
  (m_X7_thrown n z3.2 mo).bind fun x5 =>
  if x5 = z1.1 then
    if z1.1 = 0 then
      (agJ z3.2 ou 0).bind fun x6 =>
      if (lg_cmp x6 (Int32.toInt64 z3.1)) = 0 then
        some z3.2
      else
        none
    else
      some z3.2
  else
    none
def mc_15 (K : Nat → Nat) (n : Nat) (w : Wd) (x mo ou : Nat) (xs : Nat → Int32) (i : Int32) : Option Wd :=
  (m_L_cursor n w x (xs (Int32.toNatClampNeg (i + 1))) (xs (Int32.toNatClampNeg (i + 2))) ou).bind fun z1 =>
  (chk 6 z1.2 mo).bind fun u2 =>
  (m_X7_cursor n z1.2 mo (xs (Int32.toNatClampNeg (i + 1))) (xs (Int32.toNatClampNeg (i + 2)))).bind fun z3 =>
  (chk 6 z3.2 mo).bind fun u4 =>
  (m_X7_thrown n z3.2 mo).bind fun x5 =>
  if x5 = z1.1 then
    if z1.1 = 0 then
      (agJ z3.2 ou 0).bind fun x6 =>
      if (lg_cmp x6 (Int32.toInt64 z3.1)) = 0 then
        some z3.2
      else
        none
    else
      some z3.2
  else
    none
def mc_16 (K : Nat → Nat) (n : Nat) (w : Wd) (x mo ou : Nat) (xs : Nat → Int32) (i : Int32) : Option Wd :=
  (m_L_nearest n w x (xs (Int32.toNatClampNeg (i + 1))) (xs (Int32.toNatClampNeg (i + 2))) (xs (Int32.toNatClampNeg (i + 3))) ou).bind fun z1 =>
  (chk 6 z1.2 mo).bind fun u2 =>
  (m_X7_nearest n z1.2 mo (xs (Int32.toNatClampNeg (i + 1))) (xs (Int32.toNatClampNeg (i + 2))) (xs (Int32.toNatClampNeg (i + 3)))).bind fun z3 =>
  (chk 6 z3.2 mo).bind fun u4 =>
  (m_X7_thrown n z3.2 mo).bind fun x5 =>
  if x5 = z1.1 then
    if z1.1 = 0 then
      (agJ z3.2 ou 0).bind fun x6 =>
      if (lg_cmp x6 (Int32.toInt64 z3.1)) = 0 then
        some z3.2
      else
        none
    else
      some z3.2
  else
    none
def mc_17 (K : Nat → Nat) (n : Nat) (w : Wd) (x mo ou : Nat) (xs : Nat → Int32) (i : Int32) : Option Wd :=
  (m_L_within n w x (xs (Int32.toNatClampNeg (i + 1))) (xs (Int32.toNatClampNeg (i + 2))) (xs (Int32.toNatClampNeg (i + 3))) (xs (Int32.toNatClampNeg (i + 4))) ou).bind fun z1 =>
  (chk 6 z1.2 mo).bind fun u2 =>
  (m_X7_within n z1.2 mo (xs (Int32.toNatClampNeg (i + 1))) (xs (Int32.toNatClampNeg (i + 2))) (xs (Int32.toNatClampNeg (i + 3))) (xs (Int32.toNatClampNeg (i + 4)))).bind fun z3 =>
  (chk 6 z3.2 mo).bind fun u4 =>
  (m_X7_thrown n z3.2 mo).bind fun x5 =>
  if x5 = z1.1 then
    if z1.1 = 0 then
      (agJ z3.2 ou 0).bind fun x6 =>
      if (lg_cmp x6 (Int32.toInt64 z3.1)) = 0 then
        some z3.2
      else
        none
    else
      some z3.2
  else
    none
def mc_18 (K : Nat → Nat) (n : Nat) (w : Wd) (x mo ou : Nat) (xs : Nat → Int32) (i : Int32) : Option Wd :=
  (m_L_closest n w x (xs (Int32.toNatClampNeg (i + 1))) ou).bind fun z1 =>
  (chk 6 z1.2 mo).bind fun u2 =>
  (m_X7_closest n z1.2 mo (xs (Int32.toNatClampNeg (i + 1)))).bind fun z3 =>
  (chk 6 z3.2 mo).bind fun u4 =>
  (m_X7_thrown n z3.2 mo).bind fun x5 =>
  if x5 = z1.1 then
    if z1.1 = 0 then
      (agJ z3.2 ou 0).bind fun x6 =>
      if (lg_cmp x6 (Int32.toInt64 z3.1)) = 0 then
        some z3.2
      else
        none
    else
      some z3.2
  else
    none
def mc_19 (K : Nat → Nat) (n : Nat) (w : Wd) (x mo ou : Nat) (xs : Nat → Int32) (i : Int32) : Option Wd :=
  (m_L_type n w x (xs (Int32.toNatClampNeg (i + 1))) ou).bind fun z1 =>
  (chk 6 z1.2 mo).bind fun u2 =>
  (m_X7_type n z1.2 mo (xs (Int32.toNatClampNeg (i + 1)))).bind fun z3 =>
  (chk 6 z3.2 mo).bind fun u4 =>
  (m_X7_thrown n z3.2 mo).bind fun x5 =>
  if x5 = z1.1 then
    if z1.1 = 0 then
      (agJ z3.2 ou 0).bind fun x6 =>
      if (lg_cmp x6 (Int32.toInt64 z3.1)) = 0 then
        some z3.2
      else
        none
    else
      some z3.2
  else
    none
def mc_20 (K : Nat → Nat) (n : Nat) (w : Wd) (x mo ou : Nat) (xs : Nat → Int32) (i : Int32) : Option Wd :=
  (chk 5 w x).bind fun u1 =>
  (m_X6_clearScript n w x).bind fun z2 =>
  (chk 6 z2.2 mo).bind fun u3 =>
  (m_X7_clearScript n z2.2 mo).bind fun z4 =>
  if z2.1 = z4.1 then
    some z4.2
  else
    none
def mc_21 (K : Nat → Nat) (n : Nat) (w : Wd) (x mo ou : Nat) (xs : Nat → Int32) (i : Int32) : Option Wd :=
  (chk 5 w x).bind fun u1 =>
  (m_X6_run K n w x).bind fun z2 =>
  (chk 6 z2.2 mo).bind fun u3 =>
  (m_X7_run n z2.2 mo).bind fun z4 =>
  if z2.1 = z4.1 then
    some z4.2
  else
    none
def mc_22 (K : Nat → Nat) (n : Nat) (w : Wd) (x mo ou : Nat) (xs : Nat → Int32) (i : Int32) : Option Wd :=
  (chk 5 w x).bind fun u1 =>
  (m_X6_time n w x).bind fun x2 =>
  (chk 6 w mo).bind fun u3 =>
  (m_X7_time n w mo).bind fun z4 =>
  if x2 = z4.1 then
    some z4.2
  else
    none
def mc_23 (K : Nat → Nat) (n : Nat) (w : Wd) (x mo ou : Nat) (xs : Nat → Int32) (i : Int32) : Option Wd :=
  (m_L_undo n w x ou).bind fun z1 =>
  (chk 6 z1.2 mo).bind fun u2 =>
  (m_X7_undo n z1.2 mo).bind fun z3 =>
  (chk 6 z3.2 mo).bind fun u4 =>
  (m_X7_thrown n z3.2 mo).bind fun x5 =>
  if x5 = z1.1 then
    if z1.1 = 0 then
      (agJ z3.2 ou 0).bind fun x6 =>
      if (lg_cmp x6 (Int32.toInt64 z3.1)) = 0 then
        some z3.2
      else
        none
    else
      some z3.2
  else
    none
def mc_24 (K : Nat → Nat) (n : Nat) (w : Wd) (x mo ou : Nat) (xs : Nat → Int32) (i : Int32) : Option Wd :=
  (chk 5 w x).bind fun u1 =>
  (m_X6_digest n w x).bind fun z2 =>
  (chk 6 w mo).bind fun u3 =>
  (m_X7_digest n w mo).bind fun z4 =>
  if (lg_cmp z2 z4.1) = 0 then
    some z4.2
  else
    none
