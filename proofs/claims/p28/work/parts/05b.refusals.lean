def q_X6_add (n : Nat) (w : Wd) (this : Nat) (a1 : Int32) (a2 : Int32) (a3 : Int32) : Option Int32 :=
  (chk 5 w this).bind fun u1 =>
  (m_X6_refusalOfPlace n w this a1 a2 a3 0).bind fun x2 =>
  some x2
def q_X6_move (n : Nat) (w : Wd) (this : Nat) (a1 : Int32) (a2 : Int32) (a3 : Int32) : Option Int32 :=
  (chk 5 w this).bind fun u1 =>
  (m_X6_refusalOfPlace n w this a1 a2 a3 1).bind fun x2 =>
  some x2
def q_X6_remove (n : Nat) (w : Wd) (this : Nat) (a1 : Int32) : Option Int32 :=
  (chk 5 w this).bind fun u1 =>
  (m_X6_refusalOfDrop n w this a1).bind fun x2 =>
  some x2
def q_X6_setVelocity (n : Nat) (w : Wd) (this : Nat) (a1 : Int32) (a2 : Int32) (a3 : Int32) : Option Int32 :=
  (chk 5 w this).bind fun u1 =>
  (m_X6_refusalOfSpeed n w this a1 a2 a3).bind fun x2 =>
  some x2
def q_X6_tick (n : Nat) (w : Wd) (this : Nat) (a1 : Int32) : Option Int32 :=
  some (m_X6_refusalOfTicks a1)
def q_X6_scatter (n : Nat) (w : Wd) (this : Nat) (a1 : Int32) (a2 : Int32) (a3 : Int32) (a4 : Int32) : Option Int32 :=
  some (m_X6_refusalOfScatter a1 a2 a3 a4)
def q_X6_point (n : Nat) (w : Wd) (this : Nat) (a1 : Int32) (a2 : Int32) : Option Int32 :=
  some (m_X6_refusalOfValue a1 24 a2 5)
def q_X6_level (n : Nat) (w : Wd) (this : Nat) (a1 : Int32) (a2 : Int32) : Option Int32 :=
  some (m_X6_refusalOfValue a1 5 a2 4)
def q_X6_node (n : Nat) (w : Wd) (this : Nat) (a1 : Int32) (a2 : Int32) (a3 : Int32) : Option Int32 :=
  (chk 5 w this).bind fun u1 =>
  (m_X6_refusalOfNode n w this a1 a2 a3 5).bind fun x2 =>
  some x2
def q_X6_child (n : Nat) (w : Wd) (this : Nat) (a1 : Int32) (a2 : Int32) (a3 : Int32) : Option Int32 :=
  (chk 5 w this).bind fun u1 =>
  (m_X6_refusalOfNode n w this a1 a2 a3 3).bind fun x2 =>
  some x2
def q_X6_search (n : Nat) (w : Wd) (this : Nat) (a1 : Int32) (a2 : Int32) (a3 : Int32) (a4 : Int32) : Option Int32 :=
  if (m_X6_isPosition a1 a2) = 0 then
    some 2
  else
    if (m_X6_inside a4 0 2) = 0 then
      some 2
    else
      some 0
def q_X6_wouldTouch (n : Nat) (w : Wd) (this : Nat) (a1 : Int32) (a2 : Int32) (a3 : Int32) : Option Int32 :=
  (chk 5 w this).bind fun u1 =>
  (m_X6_refusalOfPlace n w this a1 a2 a3 1).bind fun x2 =>
  some x2
def q_X6_open (n : Nat) (w : Wd) (this : Nat) (a1 : Int32) (a2 : Int32) (a3 : Int32) : Option Int32 :=
  some (m_X6_refusalOfOpen a1 a2 a3)
def q_X6_next (n : Nat) (w : Wd) (this : Nat) (a1 : Int32) : Option Int32 :=
  if (m_X6_inside a1 0 3) = 0 then
    some 1
  else
    some 0
def q_X6_cursor (n : Nat) (w : Wd) (this : Nat) (a1 : Int32) (a2 : Int32) : Option Int32 :=
  some (m_X6_refusalOfValue a1 4 a2 5)
def q_X6_nearest (n : Nat) (w : Wd) (this : Nat) (a1 : Int32) (a2 : Int32) (a3 : Int32) : Option Int32 :=
  if (m_X6_isPosition a1 a2) = 0 then
    some 2
  else
    if a3 < 0 then
      some 2
    else
      some 0
def q_X6_within (n : Nat) (w : Wd) (this : Nat) (a1 : Int32) (a2 : Int32) (a3 : Int32) (a4 : Int32) : Option Int32 :=
  if (m_X6_isPosition a1 a2) = 0 then
    some 2
  else
    if (m_X6_isPosition a3 a4) = 0 then
      some 2
    else
      some 0
def q_X6_closest (n : Nat) (w : Wd) (this : Nat) (a1 : Int32) : Option Int32 :=
  if (m_X6_inside a1 0 2) = 0 then
    some 2
  else
    some 0
def q_X6_type (n : Nat) (w : Wd) (this : Nat) (a1 : Int32) : Option Int32 :=
  (chk 5 w this).bind fun u1 =>
  (m_X6_refusalOfByte n w this a1).bind fun x2 =>
  some x2
def q_X6_undo (n : Nat) (w : Wd) (this : Nat) : Option Int32 :=
  (gfR 5 1 w this).bind fun q1 =>
  (gfI 4 2 w q1).bind fun x2 =>
  if x2 ≤ 0 then
    some 3
  else
    some 0
