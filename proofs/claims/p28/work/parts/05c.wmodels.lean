def m_LX_add (n : Nat) (w : Wd) (a0 : Nat) (a1 : Int32) (a2 : Int32) (a3 : Int32) : Option (Int32 × Wd) :=
  (chk 5 w a0).bind fun u => m_X6_add n w a0 a1 a2 a3
def m_LX_child (n : Nat) (w : Wd) (a0 : Nat) (a1 : Int32) (a2 : Int32) (a3 : Int32) : Option (Int32) :=
  (chk 5 w a0).bind fun u => m_X6_child n w a0 a1 a2 a3
def m_LX_closest (n : Nat) (w : Wd) (a0 : Nat) (a1 : Int32) : Option (Int32) :=
  (chk 5 w a0).bind fun u => m_X6_closest n w a0 a1
def m_LX_cursor (n : Nat) (w : Wd) (a0 : Nat) (a1 : Int32) (a2 : Int32) : Option (Int32) :=
  (chk 5 w a0).bind fun u => m_X6_cursor n w a0 a1 a2
def m_LX_level (n : Nat) (w : Wd) (a0 : Nat) (a1 : Int32) (a2 : Int32) : Option (Int32) :=
  (chk 5 w a0).bind fun u => m_X6_level n w a0 a1 a2
def m_LX_move (n : Nat) (w : Wd) (a0 : Nat) (a1 : Int32) (a2 : Int32) (a3 : Int32) : Option (Int32 × Wd) :=
  (chk 5 w a0).bind fun u => m_X6_move n w a0 a1 a2 a3
def m_LX_nearest (n : Nat) (w : Wd) (a0 : Nat) (a1 : Int32) (a2 : Int32) (a3 : Int32) : Option (Int32) :=
  (chk 5 w a0).bind fun u => m_X6_nearest n w a0 a1 a2 a3
def m_LX_next (n : Nat) (w : Wd) (a0 : Nat) (a1 : Int32) : Option (Int32 × Wd) :=
  (chk 5 w a0).bind fun u => m_X6_next n w a0 a1
def m_LX_node (n : Nat) (w : Wd) (a0 : Nat) (a1 : Int32) (a2 : Int32) (a3 : Int32) : Option (Int32) :=
  (chk 5 w a0).bind fun u => m_X6_node n w a0 a1 a2 a3
def m_LX_open (n : Nat) (w : Wd) (a0 : Nat) (a1 : Int32) (a2 : Int32) (a3 : Int32) : Option (Int32 × Wd) :=
  (chk 5 w a0).bind fun u => m_X6_open n w a0 a1 a2 a3
def m_LX_point (n : Nat) (w : Wd) (a0 : Nat) (a1 : Int32) (a2 : Int32) : Option (Int32) :=
  (chk 5 w a0).bind fun u => m_X6_point n w a0 a1 a2
def m_LX_remove (n : Nat) (w : Wd) (a0 : Nat) (a1 : Int32) : Option (Int32 × Wd) :=
  (chk 5 w a0).bind fun u => m_X6_remove n w a0 a1
def m_LX_scatter (n : Nat) (w : Wd) (a0 : Nat) (a1 : Int32) (a2 : Int32) (a3 : Int32) (a4 : Int32) : Option (Int32 × Wd) :=
  (chk 5 w a0).bind fun u => m_X6_scatter n w a0 a1 a2 a3 a4
def m_LX_search (n : Nat) (w : Wd) (a0 : Nat) (a1 : Int32) (a2 : Int32) (a3 : Int32) (a4 : Int32) : Option (Int32) :=
  (chk 5 w a0).bind fun u => m_X6_search n w a0 a1 a2 a3 a4
def m_LX_setVelocity (n : Nat) (w : Wd) (a0 : Nat) (a1 : Int32) (a2 : Int32) (a3 : Int32) : Option (Int32 × Wd) :=
  (chk 5 w a0).bind fun u => m_X6_setVelocity n w a0 a1 a2 a3
def m_LX_tick (n : Nat) (w : Wd) (a0 : Nat) (a1 : Int32) : Option (Int32 × Wd) :=
  (chk 5 w a0).bind fun u => m_X6_tick n w a0 a1
def m_LX_type (n : Nat) (w : Wd) (a0 : Nat) (a1 : Int32) : Option (Int32 × Wd) :=
  (chk 5 w a0).bind fun u => m_X6_type n w a0 a1
def m_LX_undo (n : Nat) (w : Wd) (a0 : Nat) : Option (Int32 × Wd) :=
  (chk 5 w a0).bind fun u => m_X6_undo n w a0
def m_LX_within (n : Nat) (w : Wd) (a0 : Nat) (a1 : Int32) (a2 : Int32) (a3 : Int32) (a4 : Int32) : Option (Int32) :=
  (chk 5 w a0).bind fun u => m_X6_within n w a0 a1 a2 a3 a4
def m_LX_wouldTouch (n : Nat) (w : Wd) (a0 : Nat) (a1 : Int32) (a2 : Int32) (a3 : Int32) : Option (Int32 × Wd) :=
  (chk 5 w a0).bind fun u => m_X6_wouldTouch n w a0 a1 a2 a3
def m_L_add (n : Nat) (w : Wd) (a0 : Nat) (a1 : Int32) (a2 : Int32) (a3 : Int32) : Option (Int32 × Wd) :=
  (chk 5 w a0).bind fun u =>
  (q_X6_add n w a0 a1 a2 a3).bind fun k =>
  if k = 0 then
    (m_X6_add n w a0 a1 a2 a3).bind fun z =>
    some (z.1, z.2)
  else if k = 1 then
    some (-5000003, w)
  else if k = 2 then
    some (-5000001, w)
  else if k = 3 then
    some (-5000002, w)
  else none
def m_L_child (n : Nat) (w : Wd) (a0 : Nat) (a1 : Int32) (a2 : Int32) (a3 : Int32) : Option (Int32 × Wd) :=
  (chk 5 w a0).bind fun u =>
  (q_X6_child n w a0 a1 a2 a3).bind fun k =>
  if k = 0 then
    (m_X6_child n w a0 a1 a2 a3).bind fun z =>
    some (z, w)
  else if k = 1 then
    some (-5000003, w)
  else if k = 2 then
    some (-5000001, w)
  else none
def m_L_closest (n : Nat) (w : Wd) (a0 : Nat) (a1 : Int32) : Option (Int32 × Wd) :=
  (chk 5 w a0).bind fun u =>
  (q_X6_closest n w a0 a1).bind fun k =>
  if k = 0 then
    (m_X6_closest n w a0 a1).bind fun z =>
    some (z, w)
  else if k = 2 then
    some (-5000001, w)
  else none
def m_L_cursor (n : Nat) (w : Wd) (a0 : Nat) (a1 : Int32) (a2 : Int32) : Option (Int32 × Wd) :=
  (chk 5 w a0).bind fun u =>
  (q_X6_cursor n w a0 a1 a2).bind fun k =>
  if k = 0 then
    (m_X6_cursor n w a0 a1 a2).bind fun z =>
    some (z, w)
  else if k = 1 then
    some (-5000003, w)
  else if k = 2 then
    some (-5000001, w)
  else none
def m_L_level (n : Nat) (w : Wd) (a0 : Nat) (a1 : Int32) (a2 : Int32) : Option (Int32 × Wd) :=
  (chk 5 w a0).bind fun u =>
  (q_X6_level n w a0 a1 a2).bind fun k =>
  if k = 0 then
    (m_X6_level n w a0 a1 a2).bind fun z =>
    some (z, w)
  else if k = 1 then
    some (-5000003, w)
  else if k = 2 then
    some (-5000001, w)
  else none
def m_L_move (n : Nat) (w : Wd) (a0 : Nat) (a1 : Int32) (a2 : Int32) (a3 : Int32) : Option (Int32 × Wd) :=
  (chk 5 w a0).bind fun u =>
  (q_X6_move n w a0 a1 a2 a3).bind fun k =>
  if k = 0 then
    (m_X6_move n w a0 a1 a2 a3).bind fun z =>
    some (z.1, z.2)
  else if k = 1 then
    some (-5000003, w)
  else if k = 2 then
    some (-5000001, w)
  else if k = 3 then
    some (-5000002, w)
  else none
def m_L_nearest (n : Nat) (w : Wd) (a0 : Nat) (a1 : Int32) (a2 : Int32) (a3 : Int32) : Option (Int32 × Wd) :=
  (chk 5 w a0).bind fun u =>
  (q_X6_nearest n w a0 a1 a2 a3).bind fun k =>
  if k = 0 then
    (m_X6_nearest n w a0 a1 a2 a3).bind fun z =>
    some (z, w)
  else if k = 2 then
    some (-5000001, w)
  else none
def m_L_next (n : Nat) (w : Wd) (a0 : Nat) (a1 : Int32) : Option (Int32 × Wd) :=
  (chk 5 w a0).bind fun u =>
  (q_X6_next n w a0 a1).bind fun k =>
  if k = 0 then
    (m_X6_next n w a0 a1).bind fun z =>
    some (z.1, z.2)
  else if k = 1 then
    some (-5000003, w)
  else none
def m_L_node (n : Nat) (w : Wd) (a0 : Nat) (a1 : Int32) (a2 : Int32) (a3 : Int32) : Option (Int32 × Wd) :=
  (chk 5 w a0).bind fun u =>
  (q_X6_node n w a0 a1 a2 a3).bind fun k =>
  if k = 0 then
    (m_X6_node n w a0 a1 a2 a3).bind fun z =>
    some (z, w)
  else if k = 1 then
    some (-5000003, w)
  else if k = 2 then
    some (-5000001, w)
  else none
def m_L_open (n : Nat) (w : Wd) (a0 : Nat) (a1 : Int32) (a2 : Int32) (a3 : Int32) : Option (Int32 × Wd) :=
  (chk 5 w a0).bind fun u =>
  (q_X6_open n w a0 a1 a2 a3).bind fun k =>
  if k = 0 then
    (m_X6_open n w a0 a1 a2 a3).bind fun z =>
    some (z.1, z.2)
  else if k = 1 then
    some (-5000003, w)
  else if k = 2 then
    some (-5000001, w)
  else none
def m_L_point (n : Nat) (w : Wd) (a0 : Nat) (a1 : Int32) (a2 : Int32) : Option (Int32 × Wd) :=
  (chk 5 w a0).bind fun u =>
  (q_X6_point n w a0 a1 a2).bind fun k =>
  if k = 0 then
    (m_X6_point n w a0 a1 a2).bind fun z =>
    some (z, w)
  else if k = 1 then
    some (-5000003, w)
  else if k = 2 then
    some (-5000001, w)
  else none
def m_L_remove (n : Nat) (w : Wd) (a0 : Nat) (a1 : Int32) : Option (Int32 × Wd) :=
  (chk 5 w a0).bind fun u =>
  (q_X6_remove n w a0 a1).bind fun k =>
  if k = 0 then
    (m_X6_remove n w a0 a1).bind fun z =>
    some (z.1, z.2)
  else if k = 1 then
    some (-5000003, w)
  else if k = 3 then
    some (-5000002, w)
  else none
def m_L_scatter (n : Nat) (w : Wd) (a0 : Nat) (a1 : Int32) (a2 : Int32) (a3 : Int32) (a4 : Int32) : Option (Int32 × Wd) :=
  (chk 5 w a0).bind fun u =>
  (q_X6_scatter n w a0 a1 a2 a3 a4).bind fun k =>
  if k = 0 then
    (m_X6_scatter n w a0 a1 a2 a3 a4).bind fun z =>
    some (z.1, z.2)
  else if k = 1 then
    some (-5000003, w)
  else if k = 2 then
    some (-5000001, w)
  else none
def m_L_search (n : Nat) (w : Wd) (a0 : Nat) (a1 : Int32) (a2 : Int32) (a3 : Int32) (a4 : Int32) : Option (Int32 × Wd) :=
  (chk 5 w a0).bind fun u =>
  (q_X6_search n w a0 a1 a2 a3 a4).bind fun k =>
  if k = 0 then
    (m_X6_search n w a0 a1 a2 a3 a4).bind fun z =>
    some (z, w)
  else if k = 2 then
    some (-5000001, w)
  else none
def m_L_setVelocity (n : Nat) (w : Wd) (a0 : Nat) (a1 : Int32) (a2 : Int32) (a3 : Int32) : Option (Int32 × Wd) :=
  (chk 5 w a0).bind fun u =>
  (q_X6_setVelocity n w a0 a1 a2 a3).bind fun k =>
  if k = 0 then
    (m_X6_setVelocity n w a0 a1 a2 a3).bind fun z =>
    some (z.1, z.2)
  else if k = 1 then
    some (-5000003, w)
  else if k = 2 then
    some (-5000001, w)
  else if k = 3 then
    some (-5000002, w)
  else none
def m_L_tick (n : Nat) (w : Wd) (a0 : Nat) (a1 : Int32) : Option (Int32 × Wd) :=
  (chk 5 w a0).bind fun u =>
  (q_X6_tick n w a0 a1).bind fun k =>
  if k = 0 then
    (m_X6_tick n w a0 a1).bind fun z =>
    some (z.1, z.2)
  else if k = 2 then
    some (-5000001, w)
  else none
def m_L_type (n : Nat) (w : Wd) (a0 : Nat) (a1 : Int32) : Option (Int32 × Wd) :=
  (chk 5 w a0).bind fun u =>
  (q_X6_type n w a0 a1).bind fun k =>
  if k = 0 then
    (m_X6_type n w a0 a1).bind fun z =>
    some (z.1, z.2)
  else if k = 2 then
    some (-5000001, w)
  else if k = 3 then
    some (-5000002, w)
  else none
def m_L_undo (n : Nat) (w : Wd) (a0 : Nat) : Option (Int32 × Wd) :=
  (chk 5 w a0).bind fun u =>
  (q_X6_undo n w a0).bind fun k =>
  if k = 0 then
    (m_X6_undo n w a0).bind fun z =>
    some (z.1, z.2)
  else if k = 3 then
    some (-5000002, w)
  else none
def m_L_within (n : Nat) (w : Wd) (a0 : Nat) (a1 : Int32) (a2 : Int32) (a3 : Int32) (a4 : Int32) : Option (Int32 × Wd) :=
  (chk 5 w a0).bind fun u =>
  (q_X6_within n w a0 a1 a2 a3 a4).bind fun k =>
  if k = 0 then
    (m_X6_within n w a0 a1 a2 a3 a4).bind fun z =>
    some (z, w)
  else if k = 2 then
    some (-5000001, w)
  else none
def m_L_wouldTouch (n : Nat) (w : Wd) (a0 : Nat) (a1 : Int32) (a2 : Int32) (a3 : Int32) : Option (Int32 × Wd) :=
  (chk 5 w a0).bind fun u =>
  (q_X6_wouldTouch n w a0 a1 a2 a3).bind fun k =>
  if k = 0 then
    (m_X6_wouldTouch n w a0 a1 a2 a3).bind fun z =>
    some (z.1, z.2)
  else if k = 1 then
    some (-5000003, w)
  else if k = 2 then
    some (-5000001, w)
  else if k = 3 then
    some (-5000002, w)
  else none
