def m_L_add (n : Nat) (w : Wd) (a0 : Nat) (a1 : Int32) (a2 : Int32) (a3 : Int32) (a4 : Nat) : Option (Int32 × Wd) :=
  (chk 5 w a0).bind fun u =>
  (q_X6_add n w a0 a1 a2 a3).bind fun k =>
  if k = 0 then
    (m_X6_add n w a0 a1 a2 a3).bind fun z =>
    (asJ z.2 a4 0 (Int32.toInt64 z.1)).bind fun w2 =>
    some (0, w2)
  else if k = 1 then
    some (1, w)
  else if k = 2 then
    some (2, w)
  else if k = 3 then
    some (3, w)
  else none
def m_L_child (n : Nat) (w : Wd) (a0 : Nat) (a1 : Int32) (a2 : Int32) (a3 : Int32) (a4 : Nat) : Option (Int32 × Wd) :=
  (chk 5 w a0).bind fun u =>
  (q_X6_child n w a0 a1 a2 a3).bind fun k =>
  if k = 0 then
    (m_X6_child n w a0 a1 a2 a3).bind fun z =>
    (asJ w a4 0 (Int32.toInt64 z)).bind fun w2 =>
    some (0, w2)
  else if k = 1 then
    some (1, w)
  else if k = 2 then
    some (2, w)
  else none
def m_L_closest (n : Nat) (w : Wd) (a0 : Nat) (a1 : Int32) (a2 : Nat) : Option (Int32 × Wd) :=
  (chk 5 w a0).bind fun u =>
  (q_X6_closest n w a0 a1).bind fun k =>
  if k = 0 then
    (m_X6_closest n w a0 a1).bind fun z =>
    (asJ w a2 0 (Int32.toInt64 z)).bind fun w2 =>
    some (0, w2)
  else if k = 2 then
    some (1, w)
  else none
def m_L_cursor (n : Nat) (w : Wd) (a0 : Nat) (a1 : Int32) (a2 : Int32) (a3 : Nat) : Option (Int32 × Wd) :=
  (chk 5 w a0).bind fun u =>
  (q_X6_cursor n w a0 a1 a2).bind fun k =>
  if k = 0 then
    (m_X6_cursor n w a0 a1 a2).bind fun z =>
    (asJ w a3 0 (Int32.toInt64 z)).bind fun w2 =>
    some (0, w2)
  else if k = 1 then
    some (1, w)
  else if k = 2 then
    some (2, w)
  else none
def m_L_level (n : Nat) (w : Wd) (a0 : Nat) (a1 : Int32) (a2 : Int32) (a3 : Nat) : Option (Int32 × Wd) :=
  (chk 5 w a0).bind fun u =>
  (q_X6_level n w a0 a1 a2).bind fun k =>
  if k = 0 then
    (m_X6_level n w a0 a1 a2).bind fun z =>
    (asJ w a3 0 (Int32.toInt64 z)).bind fun w2 =>
    some (0, w2)
  else if k = 1 then
    some (1, w)
  else if k = 2 then
    some (2, w)
  else none
def m_L_move (n : Nat) (w : Wd) (a0 : Nat) (a1 : Int32) (a2 : Int32) (a3 : Int32) (a4 : Nat) : Option (Int32 × Wd) :=
  (chk 5 w a0).bind fun u =>
  (q_X6_move n w a0 a1 a2 a3).bind fun k =>
  if k = 0 then
    (m_X6_move n w a0 a1 a2 a3).bind fun z =>
    (asJ z.2 a4 0 (Int32.toInt64 z.1)).bind fun w2 =>
    some (0, w2)
  else if k = 1 then
    some (1, w)
  else if k = 2 then
    some (2, w)
  else if k = 3 then
    some (3, w)
  else none
def m_L_nearest (n : Nat) (w : Wd) (a0 : Nat) (a1 : Int32) (a2 : Int32) (a3 : Int32) (a4 : Nat) : Option (Int32 × Wd) :=
  (chk 5 w a0).bind fun u =>
  (q_X6_nearest n w a0 a1 a2 a3).bind fun k =>
  if k = 0 then
    (m_X6_nearest n w a0 a1 a2 a3).bind fun z =>
    (asJ w a4 0 (Int32.toInt64 z)).bind fun w2 =>
    some (0, w2)
  else if k = 2 then
    some (1, w)
  else none
def m_L_next (n : Nat) (w : Wd) (a0 : Nat) (a1 : Int32) (a2 : Nat) : Option (Int32 × Wd) :=
  (chk 5 w a0).bind fun u =>
  (q_X6_next n w a0 a1).bind fun k =>
  if k = 0 then
    (m_X6_next n w a0 a1).bind fun z =>
    (asJ z.2 a2 0 (Int32.toInt64 z.1)).bind fun w2 =>
    some (0, w2)
  else if k = 1 then
    some (1, w)
  else none
def m_L_node (n : Nat) (w : Wd) (a0 : Nat) (a1 : Int32) (a2 : Int32) (a3 : Int32) (a4 : Nat) : Option (Int32 × Wd) :=
  (chk 5 w a0).bind fun u =>
  (q_X6_node n w a0 a1 a2 a3).bind fun k =>
  if k = 0 then
    (m_X6_node n w a0 a1 a2 a3).bind fun z =>
    (asJ w a4 0 (Int32.toInt64 z)).bind fun w2 =>
    some (0, w2)
  else if k = 1 then
    some (1, w)
  else if k = 2 then
    some (2, w)
  else none
def m_L_open (n : Nat) (w : Wd) (a0 : Nat) (a1 : Int32) (a2 : Int32) (a3 : Int32) (a4 : Nat) : Option (Int32 × Wd) :=
  (chk 5 w a0).bind fun u =>
  (q_X6_open n w a0 a1 a2 a3).bind fun k =>
  if k = 0 then
    (m_X6_open n w a0 a1 a2 a3).bind fun z =>
    (asJ z.2 a4 0 (Int32.toInt64 z.1)).bind fun w2 =>
    some (0, w2)
  else if k = 1 then
    some (1, w)
  else if k = 2 then
    some (2, w)
  else none
def m_L_point (n : Nat) (w : Wd) (a0 : Nat) (a1 : Int32) (a2 : Int32) (a3 : Nat) : Option (Int32 × Wd) :=
  (chk 5 w a0).bind fun u =>
  (q_X6_point n w a0 a1 a2).bind fun k =>
  if k = 0 then
    (m_X6_point n w a0 a1 a2).bind fun z =>
    (asJ w a3 0 (Int32.toInt64 z)).bind fun w2 =>
    some (0, w2)
  else if k = 1 then
    some (1, w)
  else if k = 2 then
    some (2, w)
  else none
def m_L_remove (n : Nat) (w : Wd) (a0 : Nat) (a1 : Int32) (a2 : Nat) : Option (Int32 × Wd) :=
  (chk 5 w a0).bind fun u =>
  (q_X6_remove n w a0 a1).bind fun k =>
  if k = 0 then
    (m_X6_remove n w a0 a1).bind fun z =>
    (asJ z.2 a2 0 (Int32.toInt64 z.1)).bind fun w2 =>
    some (0, w2)
  else if k = 1 then
    some (1, w)
  else if k = 3 then
    some (2, w)
  else none
def m_L_scatter (n : Nat) (w : Wd) (a0 : Nat) (a1 : Int32) (a2 : Int32) (a3 : Int32) (a4 : Int32) (a5 : Nat) : Option (Int32 × Wd) :=
  (chk 5 w a0).bind fun u =>
  (q_X6_scatter n w a0 a1 a2 a3 a4).bind fun k =>
  if k = 0 then
    (m_X6_scatter n w a0 a1 a2 a3 a4).bind fun z =>
    (asJ z.2 a5 0 (Int32.toInt64 z.1)).bind fun w2 =>
    some (0, w2)
  else if k = 1 then
    some (1, w)
  else if k = 2 then
    some (2, w)
  else none
def m_L_search (n : Nat) (w : Wd) (a0 : Nat) (a1 : Int32) (a2 : Int32) (a3 : Int32) (a4 : Int32) (a5 : Nat) : Option (Int32 × Wd) :=
  (chk 5 w a0).bind fun u =>
  (q_X6_search n w a0 a1 a2 a3 a4).bind fun k =>
  if k = 0 then
    (m_X6_search n w a0 a1 a2 a3 a4).bind fun z =>
    (asJ w a5 0 (Int32.toInt64 z)).bind fun w2 =>
    some (0, w2)
  else if k = 2 then
    some (1, w)
  else none
def m_L_setVelocity (n : Nat) (w : Wd) (a0 : Nat) (a1 : Int32) (a2 : Int32) (a3 : Int32) (a4 : Nat) : Option (Int32 × Wd) :=
  (chk 5 w a0).bind fun u =>
  (q_X6_setVelocity n w a0 a1 a2 a3).bind fun k =>
  if k = 0 then
    (m_X6_setVelocity n w a0 a1 a2 a3).bind fun z =>
    (asJ z.2 a4 0 (Int32.toInt64 z.1)).bind fun w2 =>
    some (0, w2)
  else if k = 1 then
    some (1, w)
  else if k = 2 then
    some (2, w)
  else if k = 3 then
    some (3, w)
  else none
def m_L_tick (n : Nat) (w : Wd) (a0 : Nat) (a1 : Int32) (a2 : Nat) : Option (Int32 × Wd) :=
  (chk 5 w a0).bind fun u =>
  (q_X6_tick n w a0 a1).bind fun k =>
  if k = 0 then
    (m_X6_tick n w a0 a1).bind fun z =>
    (asJ z.2 a2 0 (Int32.toInt64 z.1)).bind fun w2 =>
    some (0, w2)
  else if k = 2 then
    some (1, w)
  else none
def m_L_type (n : Nat) (w : Wd) (a0 : Nat) (a1 : Int32) (a2 : Nat) : Option (Int32 × Wd) :=
  (chk 5 w a0).bind fun u =>
  (q_X6_type n w a0 a1).bind fun k =>
  if k = 0 then
    (m_X6_type n w a0 a1).bind fun z =>
    (asJ z.2 a2 0 (Int32.toInt64 z.1)).bind fun w2 =>
    some (0, w2)
  else if k = 2 then
    some (1, w)
  else if k = 3 then
    some (2, w)
  else none
def m_L_undo (n : Nat) (w : Wd) (a0 : Nat) (a1 : Nat) : Option (Int32 × Wd) :=
  (chk 5 w a0).bind fun u =>
  (q_X6_undo n w a0).bind fun k =>
  if k = 0 then
    (m_X6_undo n w a0).bind fun z =>
    (asJ z.2 a1 0 (Int32.toInt64 z.1)).bind fun w2 =>
    some (0, w2)
  else if k = 3 then
    some (1, w)
  else none
def m_L_within (n : Nat) (w : Wd) (a0 : Nat) (a1 : Int32) (a2 : Int32) (a3 : Int32) (a4 : Int32) (a5 : Nat) : Option (Int32 × Wd) :=
  (chk 5 w a0).bind fun u =>
  (q_X6_within n w a0 a1 a2 a3 a4).bind fun k =>
  if k = 0 then
    (m_X6_within n w a0 a1 a2 a3 a4).bind fun z =>
    (asJ w a5 0 (Int32.toInt64 z)).bind fun w2 =>
    some (0, w2)
  else if k = 2 then
    some (1, w)
  else none
def m_L_wouldTouch (n : Nat) (w : Wd) (a0 : Nat) (a1 : Int32) (a2 : Int32) (a3 : Int32) (a4 : Nat) : Option (Int32 × Wd) :=
  (chk 5 w a0).bind fun u =>
  (q_X6_wouldTouch n w a0 a1 a2 a3).bind fun k =>
  if k = 0 then
    (m_X6_wouldTouch n w a0 a1 a2 a3).bind fun z =>
    (asJ z.2 a4 0 (Int32.toInt64 z.1)).bind fun w2 =>
    some (0, w2)
  else if k = 1 then
    some (1, w)
  else if k = 2 then
    some (2, w)
  else if k = 3 then
    some (3, w)
  else none
