/-! ONE INVARIANT OF BOTH, and how a case of the law keeps it -/
def ScC (w : Wd) (a L : Nat) (B : Nat → Int32) : Prop := (∃ wd po fa, w a = some (.inr (2, [.ref (a + 1), .int (nI L), .int wd, .ref (a + 2), .int po, .int fa]))) ∧ (∃ f, w (a + 1) = some (.inl (0, 120, .inl f)) ∧ ∀ i, i < L → f i = B i) ∧ ∃ g, w (a + 2) = some (.inl (0, 3, .inl g))
theorem ScC.frame {w w' : Wd} {a L : Nat} {B : Nat → Int32} (h : ScC w a L B) (hq : ∀ q, a ≤ q → q ≤ a + 2 → w' q = w q) : ScC w' a L B := by
  obtain ⟨⟨x, y, z, h1⟩, ⟨f, h2, h3⟩, g, h4⟩ := h
  exact ⟨⟨x, y, z, by rw [hq _ (by omega) (by omega)]; exact h1⟩, ⟨f, by rw [hq _ (by omega) (by omega)]; exact h2, h3⟩, g, by rw [hq _ (by omega) (by omega)]; exact h4⟩
def OuC (w : Wd) (h : Nat) : Prop := ∃ f, w (h + 97) = some (.inl (2, 1, .inr (.inl f)))
theorem OuC.set {w : Wd} {h : Nat} (g : OuC w h) (x : Int64) : ∃ w', asJ w (h + 97) 0 x = some w' ∧ agJ w' (h + 97) 0 = some x ∧ OuC w' h ∧ ∀ q, q ≠ h + 97 → w' q = w q := by
  obtain ⟨f, e⟩ := g
  have h0 : ¬ ((0 : Int32) < 0 ∨ 1 ≤ (0 : Int32).toNatClampNeg) := by decide
  refine ⟨wup w (h + 97) (.inl (2, 1, .inr (.inl (vp_updL f 0 x)))), ?_, ?_, ⟨_, wup_self⟩, fun q hq => wup_ne hq⟩
  · unfold asJ
    rw [e]
    simp only [if_true, if_neg h0]
    rfl
  · unfold agJ
    rw [wup_self]
    simp only [if_true, if_neg h0]
    exact congrArg some pk_uLs
def Kp (w : Wd) (h : Nat) (S : Nat → Int32) (P : Nat → Nat → Int32) (c L : Nat) (B : Nat → Int32) (r : Int32) : Prop := WF S ∧ ClI w h S P c ∧ ScC w (h + 48) L B ∧ MoI w (h + 87) S P c L B r ∧ OuC w h
def InvK (h : Nat) (w : Wd) : Prop := ∃ S P c L B r, Kp w h S P c L B r
def mcF (R : Wd → Option (Int32 × Wd)) (Lw : Option (Int32 × Wd)) (n mo ou : Nat) : Option Wd :=
  Lw.bind fun z1 =>
  (chk 6 z1.2 mo).bind fun u2 =>
  (R z1.2).bind fun z3 =>
  (chk 6 z3.2 mo).bind fun u4 =>
  (m_X7_thrown n z3.2 mo).bind fun x5 =>
  if x5 = z1.1 then
    if z1.1 = 0 then
      (agJ z3.2 ou 0).bind fun x6 =>
      if (lg_cmp x6 (Int32.toInt64 z3.1)) = 0 then
        some z3.2
      else
        none
    else
      some z3.2
  else
    none
theorem lg_same (x : Int64) : lg_cmp x x = 0 := by
  unfold lg_cmp
  rw [if_neg (show ¬ x > x from Int64.lt_irrefl), if_pos rfl]
abbrev FrA (w w' : Wd) (h : Nat) : Prop := ∀ q, (q < h ∨ h + 86 < q) → w' q = w q
theorem FrC.a {w w' : Wd} {h : Nat} (q : FrC w w' h) : FrA w w' h := fun p hp => q p (by omega)
/-- a call that is refused on both sides -/
theorem case_no {n h c L : Nat} {w : Wd} {S : Nat → Int32} {P : Nat → Nat → Int32} {B : Nat → Int32} {r k v : Int32} {R : Wd → Option (Int32 × Wd)} {Lw : Option (Int32 × Wd)} (H : Kp w h S P c L B r) (hk : k ≠ 0) (hL : Lw = some (k, w)) (hR : ∃ w3, R w = some (v, w3) ∧ MoI w3 (h + 87) S P c L B k ∧ Fr w w3 (h + 87)) : ∃ w', mcF R Lw n (h + 87) (h + 97) = some w' ∧ InvK h w' := by
  obtain ⟨h1, h2, h3, h4, f, h5⟩ := H
  obtain ⟨w3, e3, m3, q3⟩ := hR
  refine ⟨w3, ?_, S, P, c, L, B, k, h1, h2.frame fun q a b _ => q3 q (by omega), h3.frame fun q a b => q3 q (by omega), m3, f, by rw [q3 _ (by omega)]; exact h5⟩
  rw [mcF, hL, Option.bind_some, h4.ck, Option.bind_some, e3, Option.bind_some, m3.ck, Option.bind_some, m3.thr, Option.bind_some, if_pos rfl, if_neg hk]
/-- a call that both answer alike -/
theorem case_ok {n h c L c' L' : Nat} {w w1 : Wd} {S S' : Nat → Int32} {P P' : Nat → Nat → Int32} {B B' : Nat → Int32} {r v : Int32} {R : Wd → Option (Int32 × Wd)} {Lw : Option (Int32 × Wd)} (H : Kp w h S P c L B r) (hL : Lw = (asJ w1 (h + 97) 0 (Int32.toInt64 v)).bind fun w2 => some (0, w2)) (hw : WF S') (h1 : ClI w1 h S' P' c') (h2 : ScC w1 (h + 48) L' B') (q1 : FrA w w1 h)
    (hR : ∀ w2, MoI w2 (h + 87) S P c L B r → ∃ w3, R w2 = some (v, w3) ∧ MoI w3 (h + 87) S' P' c' L' B' 0 ∧ Fr w2 w3 (h + 87)) : ∃ w', mcF R Lw n (h + 87) (h + 97) = some w' ∧ InvK h w' := by
  obtain ⟨-, -, -, h4, f, h5⟩ := H
  have o1 : OuC w1 h := ⟨f, by rw [q1 _ (by omega)]; exact h5⟩
  obtain ⟨w2, e2, r2, ⟨f2, o2⟩, q2⟩ := o1.set (Int32.toInt64 v)
  have m2 : MoI w2 (h + 87) S P c L B r := h4.frame fun q a b => by rw [q2 q (by omega), q1 q (by omega)]
  obtain ⟨w3, e3, m3, q3⟩ := hR w2 m2
  have e4 : agJ w3 (h + 97) 0 = some (Int32.toInt64 v) := by
    unfold agJ at r2 ⊢
    rw [q3 _ (by omega)]
    exact r2
  refine ⟨w3, ?_, S', P', c', L', B', 0, hw, h1.frame fun q a b _ => ?_, h2.frame fun q a b => ?_, m3, f2, by rw [q3 _ (by omega)]; exact o2⟩
  · rw [mcF, hL, e2, Option.bind_some, Option.bind_some, m2.ck, Option.bind_some, e3, Option.bind_some, m3.ck, Option.bind_some, m3.thr, Option.bind_some, if_pos rfl, if_pos rfl, e4, Option.bind_some, lg_same, if_pos rfl]
  · rw [q3 q (by omega), q2 q (by omega)]
  · rw [q3 q (by omega), q2 q (by omega)]
/-- where both answer and nothing is put away -/
theorem case_raw {h c L c' L' : Nat} {w w1 w3 : Wd} {S S' : Nat → Int32} {P P' : Nat → Nat → Int32} {B B' : Nat → Int32} {r r' : Int32} (H : Kp w h S P c L B r) (hw : WF S') (h1 : ClI w1 h S' P' c') (h2 : ScC w1 (h + 48) L' B') (q1 : FrA w w1 h) (m3 : MoI w3 (h + 87) S' P' c' L' B' r') (q3 : Fr w1 w3 (h + 87)) : InvK h w3 := by
  obtain ⟨-, -, -, h4, f, h5⟩ := H
  exact ⟨S', P', c', L', B', r', hw, h1.frame fun q a b _ => q3 q (by omega), h2.frame fun q a b => q3 q (by omega), m3, f, by rw [q3 _ (by omega), q1 _ (by omega)]; exact h5⟩
/-- behind a refusal that isn't one: the reference's state is saved -/
theorem k_start {n b c L : Nat} {w : Wd} {S : Nat → Int32} {P : Nat → Nat → Int32} {B : Nat → Int32} {r : Int32} (hn : 600 ≤ n) (M : MoI w b S P c L B r) : ∃ w1 w2 I J A, m_X7_refused n w b 0 = some (0, w1) ∧ chk 6 w1 b = some () ∧ m_X7_saves n w1 b = some w2 ∧ chk 6 w2 b = some () ∧ Mo w2 b I J A S (pshP c S P) (min (c + 1) 4) L B 0 ∧ Fr w w2 b := by
  obtain ⟨I, J, A, h⟩ := M
  obtain ⟨w1, e1, h1, q1⟩ := k_ref0 (n := n) h
  obtain ⟨w2, I2, A2, e2, h2, -, -, q2⟩ := k_saves hn h1
  exact ⟨w1, w2, I2, J, A2, e1, h1.ck, e2, h2.ck, h2, fun q hq => (q2 q hq).trans (q1 q hq)⟩
theorem k_no {n b c L : Nat} {w : Wd} {S : Nat → Int32} {P : Nat → Nat → Int32} {B : Nat → Int32} {r k : Int32} (hk : ¬ k ≤ 0) (M : MoI w b S P c L B r) : ∃ w1, m_X7_refused n w b k = some (1, w1) ∧ MoI w1 b S P c L B k ∧ Fr w w1 b := by
  obtain ⟨I, J, A, h⟩ := M
  obtain ⟨w1, e1, h1, q1⟩ := k_refk (n := n) hk h
  exact ⟨w1, e1, ⟨_, _, _, h1⟩, q1⟩
theorem k_fine {n b c L : Nat} {w : Wd} {S : Nat → Int32} {P : Nat → Nat → Int32} {B : Nat → Int32} {r : Int32} (M : MoI w b S P c L B r) : ∃ w1, m_X7_refused n w b 0 = some (0, w1) ∧ MoI w1 b S P c L B 0 ∧ Fr w w1 b := by
  obtain ⟨I, J, A, h⟩ := M
  obtain ⟨w1, e1, h1, q1⟩ := k_ref0 (n := n) h
  exact ⟨w1, e1, ⟨_, _, _, h1⟩, q1⟩
section AD
variable {n h c L : Nat} {w : Wd} {S : Nat → Int32} {P : Nat → Nat → Int32} {B : Nat → Int32} {r : Int32} {K : Nat → Nat} {xs : Nat → Int32} {i : Int32}
theorem pos1 : ¬ (1 : Int32) ≤ 0 ∧ ¬ (2 : Int32) ≤ 0 ∧ ¬ (3 : Int32) ≤ 0 := by decide
theorem ne1 : (1 : Int32) ≠ 0 ∧ (2 : Int32) ≠ 0 ∧ (3 : Int32) ≠ 0 ∧ (2 : Int32) ≠ 1 ∧ (3 : Int32) ≠ 1 ∧ (3 : Int32) ≠ 2 := by decide
/-- the place's refusal: what it says when it is fine -/
theorem rfP_c {a x y e : Int32} : ((if m_X6_isId a = 0 then (1 : Int32) else if m_X6_isPosition x y = 0 then 2 else if S (5 * a.toNatClampNeg) = e then 0 else 3) = 1 ∨ (if m_X6_isId a = 0 then (1 : Int32) else if m_X6_isPosition x y = 0 then 2 else if S (5 * a.toNatClampNeg) = e then 0 else 3) = 2 ∨ (if m_X6_isId a = 0 then (1 : Int32) else if m_X6_isPosition x y = 0 then 2 else if S (5 * a.toNatClampNeg) = e then 0 else 3) = 3) ∨ (if m_X6_isId a = 0 then (1 : Int32) else if m_X6_isPosition x y = 0 then 2 else if S (5 * a.toNatClampNeg) = e then 0 else 3) = 0 ∧ ∃ i p q, i < 24 ∧ p < 64 ∧ q < 64 ∧ a = nI i ∧ x = nI p ∧ y = nI q ∧ S (5 * i) = e := by
  rcases id_c a with h1 | ⟨h1, i, hi, rfl⟩
  · left; left
    rw [if_pos h1]
  · rcases pl_c x y with h2 | ⟨h2, p, q, hp, hq, rfl, rfl⟩
    · left; right; left
      rw [if_neg (show ¬ m_X6_isId (nI i) = 0 from fun q => absurd (h1.symm.trans q) (by decide)), if_pos h2]
    · rw [if_neg (show ¬ m_X6_isId (nI i) = 0 from fun q => absurd (h1.symm.trans q) (by decide)), if_neg (show ¬ m_X6_isPosition (nI p) (nI q) = 0 from fun z => absurd (h2.symm.trans z) (by decide)), nI_clamp (by omega)]
      by_cases h3 : S (5 * i) = e
      · right
        exact ⟨if_pos h3, i, p, q, hi, hp, hq, rfl, rfl, rfl, h3⟩
      · left; right; right
        exact if_neg h3
theorem B_add (hn : 600 ≤ n) (H : InvK h w) : ∃ w', mc_0 K n w h (h + 87) (h + 97) xs i = some w' ∧ InvK h w' := by
  obtain ⟨S, P, c, L, B, r, H⟩ := H
  generalize ea : xs (Int32.toNatClampNeg (i + 1)) = a
  generalize ex : xs (Int32.toNatClampNeg (i + 2)) = x
  generalize ey : xs (Int32.toNatClampNeg (i + 3)) = y
  show ∃ w', mcF (fun w1 => m_X7_add n w1 (h + 87) (xs (Int32.toNatClampNeg (i + 1))) (xs (Int32.toNatClampNeg (i + 2))) (xs (Int32.toNatClampNeg (i + 3)))) (m_L_add n w h (xs (Int32.toNatClampNeg (i + 1))) (xs (Int32.toNatClampNeg (i + 2))) (xs (Int32.toNatClampNeg (i + 3))) (h + 97)) n (h + 87) (h + 97) = some w' ∧ _
  rw [ea, ex, ey]
  have H0 := H
  obtain ⟨hw, g, sc, M, o⟩ := H
  have eq : q_X6_add n w h a x y = some (if m_X6_isId a = 0 then 1 else if m_X6_isPosition x y = 0 then 2 else if S (5 * a.toNatClampNeg) = 0 then 0 else 3) := by rw [q_X6_add, g.ck, Option.bind_some, m_refP g, Option.bind_some]
  have no : ∀ k : Int32, ¬ k ≤ 0 → (if m_X6_isId a = 0 then (1 : Int32) else if m_X6_isPosition x y = 0 then 2 else if S (5 * a.toNatClampNeg) = 0 then 0 else 3) = k → ∃ w3, m_X7_add n w (h + 87) a x y = some (0, w3) ∧ MoI w3 (h + 87) S P c L B k ∧ Fr w w3 (h + 87) := fun k hk ek => by
    obtain ⟨w3, e3, m3, q3⟩ := k_no (n := n) hk M
    obtain ⟨I, J, A, m⟩ := M
    refine ⟨w3, ?_, m3, q3⟩
    rw [m_X7_add, m.ck, Option.bind_some, k_badA m.1 m.2.1 hw, Option.bind_some, Option.bind_some, ek, e3, Option.bind_some, if_neg ne1.1]
  rcases rfP_c (S := S) (a := a) (x := x) (y := y) (e := 0) with hk | ⟨hk, id, p, q, hi, hp, hq, rfl, rfl, rfl, hz⟩
  · rcases hk with hk | hk | hk
    · refine case_no H0 ne1.1 ?_ (no 1 pos1.1 hk)
      rw [m_L_add, g.ck, Option.bind_some, eq, hk, Option.bind_some, if_neg ne1.1, if_pos rfl]
    · refine case_no H0 ne1.2.1 ?_ (no 2 pos1.2.1 hk)
      rw [m_L_add, g.ck, Option.bind_some, eq, hk, Option.bind_some, if_neg ne1.2.1, if_neg ne1.2.2.2.1, if_pos rfl]
    · refine case_no H0 ne1.2.2.1 ?_ (no 3 pos1.2.2 hk)
      rw [m_L_add, g.ck, Option.bind_some, eq, hk, Option.bind_some, if_neg ne1.2.2.1, if_neg ne1.2.2.2.2.1, if_neg ne1.2.2.2.2.2, if_pos rfl]
  · obtain ⟨w1, e1, g1, q1⟩ := m_push6 (n := n) (by omega) g hw
    obtain ⟨w2, e2, g2, q2⟩ := m_place6 (n := n) (by omega) g1 hw hi hp hq
    refine case_ok H0 (w1 := w2) (v := nI (touK S (putS S id (nI p) (nI q)) 5)) ?_ (hw.put hi hp hq) g2 (sc.frame fun z a b => (q2 z (by omega)).trans (q1 z (by omega))) (fun z hz => (q2 z (by omega)).trans (q1 z (by omega))) fun v2 m2 => ?_
    · rw [m_L_add, g.ck, Option.bind_some, eq, hk, Option.bind_some, if_pos rfl, m_X6_add, g.ck, Option.bind_some, m_refP g, Option.bind_some, hk, throw0, Option.bind_some, g.n1, Option.bind_some, g.n0, Option.bind_some, g.ck4, Option.bind_some, e1, Option.bind_some, g1.ck, Option.bind_some, e2, Option.bind_some, Option.bind_some]
    · obtain ⟨u1, u2, I, J, A, f1, c1, f2, c2, m3, q3⟩ := k_start (n := n) hn m2
      obtain ⟨u3, A3, f3, m4, r4, a4, q4⟩ := k_adds (n := n) (by omega) m3.1 m3.2.1 hw hi hp hq
      obtain ⟨I0, J0, A0, m⟩ := m2
      refine ⟨u3, ?_, ⟨I, J, A3, m3.to m4 r4 (fun _ _ => rfl) fun j k hj => a4 j k (by omega)⟩, fun z hz => (q4 z hz).trans (q3 z hz)⟩
      rw [m_X7_add, m.ck, Option.bind_some, k_badA m.1 m.2.1 hw, Option.bind_some, Option.bind_some, hk, f1, Option.bind_some, if_pos rfl, c1, Option.bind_some, f2, Option.bind_some, c2, Option.bind_some, f3, Option.bind_some]
theorem B_move (hn : 600 ≤ n) (H : InvK h w) : ∃ w', mc_1 K n w h (h + 87) (h + 97) xs i = some w' ∧ InvK h w' := by
  obtain ⟨S, P, c, L, B, r, H⟩ := H
  generalize ea : xs (Int32.toNatClampNeg (i + 1)) = a
  generalize ex : xs (Int32.toNatClampNeg (i + 2)) = x
  generalize ey : xs (Int32.toNatClampNeg (i + 3)) = y
  show ∃ w', mcF (fun w1 => m_X7_move n w1 (h + 87) (xs (Int32.toNatClampNeg (i + 1))) (xs (Int32.toNatClampNeg (i + 2))) (xs (Int32.toNatClampNeg (i + 3)))) (m_L_move n w h (xs (Int32.toNatClampNeg (i + 1))) (xs (Int32.toNatClampNeg (i + 2))) (xs (Int32.toNatClampNeg (i + 3))) (h + 97)) n (h + 87) (h + 97) = some w' ∧ _
  rw [ea, ex, ey]
  have H0 := H
  obtain ⟨hw, g, sc, M, o⟩ := H
  have eq : q_X6_move n w h a x y = some (if m_X6_isId a = 0 then 1 else if m_X6_isPosition x y = 0 then 2 else if S (5 * a.toNatClampNeg) = 1 then 0 else 3) := by rw [q_X6_move, g.ck, Option.bind_some, m_refP g, Option.bind_some]
  have no : ∀ k : Int32, ¬ k ≤ 0 → (if m_X6_isId a = 0 then (1 : Int32) else if m_X6_isPosition x y = 0 then 2 else if S (5 * a.toNatClampNeg) = 1 then 0 else 3) = k → ∃ w3, m_X7_move n w (h + 87) a x y = some (0, w3) ∧ MoI w3 (h + 87) S P c L B k ∧ Fr w w3 (h + 87) := fun k hk ek => by
    obtain ⟨w3, e3, m3, q3⟩ := k_no (n := n) hk M
    obtain ⟨I, J, A, m⟩ := M
    refine ⟨w3, ?_, m3, q3⟩
    rw [m_X7_move, m.ck, Option.bind_some, k_badM m.1 m.2.1 hw, Option.bind_some, Option.bind_some, ek, e3, Option.bind_some, if_neg ne1.1]
  rcases rfP_c (S := S) (a := a) (x := x) (y := y) (e := 1) with hk | ⟨hk, id, p, q, hi, hp, hq, rfl, rfl, rfl, hz⟩
  · rcases hk with hk | hk | hk
    · refine case_no H0 ne1.1 ?_ (no 1 pos1.1 hk)
      rw [m_L_move, g.ck, Option.bind_some, eq, hk, Option.bind_some, if_neg ne1.1, if_pos rfl]
    · refine case_no H0 ne1.2.1 ?_ (no 2 pos1.2.1 hk)
      rw [m_L_move, g.ck, Option.bind_some, eq, hk, Option.bind_some, if_neg ne1.2.1, if_neg ne1.2.2.2.1, if_pos rfl]
    · refine case_no H0 ne1.2.2.1 ?_ (no 3 pos1.2.2 hk)
      rw [m_L_move, g.ck, Option.bind_some, eq, hk, Option.bind_some, if_neg ne1.2.2.1, if_neg ne1.2.2.2.2.1, if_neg ne1.2.2.2.2.2, if_pos rfl]
  · obtain ⟨w1, e1, g1, q1⟩ := m_push6 (n := n) (by omega) g hw
    obtain ⟨w2, e2, g2, q2⟩ := m_place6 (n := n) (by omega) g1 hw hi hp hq
    refine case_ok H0 (w1 := w2) (v := nI (touK S (putS S id (nI p) (nI q)) 5)) ?_ (hw.put hi hp hq) g2 (sc.frame fun z a b => (q2 z (by omega)).trans (q1 z (by omega))) (fun z hz => (q2 z (by omega)).trans (q1 z (by omega))) fun v2 m2 => ?_
    · rw [m_L_move, g.ck, Option.bind_some, eq, hk, Option.bind_some, if_pos rfl, m_X6_move, g.ck, Option.bind_some, m_refP g, Option.bind_some, hk, throw0, Option.bind_some, g.n1, Option.bind_some, g.n0, Option.bind_some, g.ck4, Option.bind_some, e1, Option.bind_some, g1.ck, Option.bind_some, e2, Option.bind_some, Option.bind_some]
    · obtain ⟨u1, u2, I, J, A, f1, c1, f2, c2, m3, q3⟩ := k_start (n := n) hn m2
      obtain ⟨u3, A3, f3, m4, r4, a4, q4⟩ := k_adds (n := n) (by omega) m3.1 m3.2.1 hw hi hp hq
      obtain ⟨I0, J0, A0, m⟩ := m2
      refine ⟨u3, ?_, ⟨I, J, A3, m3.to m4 r4 (fun _ _ => rfl) fun j k hj => a4 j k (by omega)⟩, fun z hz => (q4 z hz).trans (q3 z hz)⟩
      rw [m_X7_move, m.ck, Option.bind_some, k_badM m.1 m.2.1 hw, Option.bind_some, Option.bind_some, hk, f1, Option.bind_some, if_pos rfl, c1, Option.bind_some, f2, Option.bind_some, c2, Option.bind_some, f3, Option.bind_some]
theorem B_remove (hn : 600 ≤ n) (H : InvK h w) : ∃ w', mc_2 K n w h (h + 87) (h + 97) xs i = some w' ∧ InvK h w' := by
  obtain ⟨S, P, c, L, B, r, H⟩ := H
  generalize ea : xs (Int32.toNatClampNeg (i + 1)) = a
  show ∃ w', mcF (fun w1 => m_X7_remove n w1 (h + 87) (xs (Int32.toNatClampNeg (i + 1)))) (m_L_remove n w h (xs (Int32.toNatClampNeg (i + 1))) (h + 97)) n (h + 87) (h + 97) = some w' ∧ _
  rw [ea]
  have H0 := H
  obtain ⟨hw, g, sc, M, o⟩ := H
  have eq : q_X6_remove n w h a = some (if m_X6_isId a = 0 then 1 else if S (5 * a.toNatClampNeg) = 0 then 3 else 0) := by rw [q_X6_remove, g.ck, Option.bind_some, m_refD g, Option.bind_some]
  have no : ∀ k : Int32, ¬ k ≤ 0 → (if m_X6_isId a = 0 then (1 : Int32) else if S (5 * a.toNatClampNeg) = 0 then 2 else 0) = k → ∃ w3, m_X7_remove n w (h + 87) a = some (0, w3) ∧ MoI w3 (h + 87) S P c L B k ∧ Fr w w3 (h + 87) := fun k hk ek => by
    obtain ⟨w3, e3, m3, q3⟩ := k_no (n := n) hk M
    obtain ⟨I, J, A, m⟩ := M
    refine ⟨w3, ?_, m3, q3⟩
    rw [m_X7_remove, m.ck, Option.bind_some, k_badR m.1 m.2.1 hw, Option.bind_some, Option.bind_some, ek, e3, Option.bind_some, if_neg ne1.1]
  rcases id_c a with h1 | ⟨h1, id, hi, rfl⟩
  · refine case_no H0 ne1.1 ?_ (no 1 pos1.1 (if_pos h1))
    rw [m_L_remove, g.ck, Option.bind_some, eq, if_pos h1, Option.bind_some, if_neg ne1.1, if_pos rfl]
  · have h1' : ¬ m_X6_isId (nI id) = 0 := by rw [h1]; decide
    have ec : (nI id).toNatClampNeg = id := nI_clamp (by omega)
    by_cases hz : S (5 * id) = 0
    · refine case_no H0 ne1.2.1 ?_ (no 2 pos1.2.1 (by rw [if_neg h1', ec, if_pos hz]))
      rw [m_L_remove, g.ck, Option.bind_some, eq, if_neg h1', ec, if_pos hz, Option.bind_some, if_neg ne1.2.2.1, if_neg ne1.2.2.2.2.1, if_pos rfl]
    · obtain ⟨w1, e1, g1, q1⟩ := m_push6 (n := n) (by omega) g hw
      obtain ⟨w2, e2, g2, q2⟩ := m_takeOut6 (n := n) (by omega) g1 hw hi
      refine case_ok H0 (w1 := w2) (v := nI (touK S (clrS S id) 5)) ?_ (hw.clr hi) g2 (sc.frame fun z a b => (q2 z (by omega)).trans (q1 z (by omega))) (fun z hz => (q2 z (by omega)).trans (q1 z (by omega))) fun v2 m2 => ?_
      · rw [m_L_remove, g.ck, Option.bind_some, eq, if_neg h1', ec, if_neg hz, Option.bind_some, if_pos rfl, m_X6_remove, g.ck, Option.bind_some, m_refD g, Option.bind_some, if_neg h1', ec, if_neg hz, throw0, Option.bind_some, g.n1, Option.bind_some, g.n0, Option.bind_some, g.ck4, Option.bind_some, e1, Option.bind_some, g1.ck, Option.bind_some, e2, Option.bind_some, Option.bind_some]
      · obtain ⟨u1, u2, I, J, A, f1, c1, f2, c2, m3, q3⟩ := k_start (n := n) hn m2
        obtain ⟨u3, A3, f3, m4, r4, a4, q4⟩ := k_removes (n := n) (by omega) m3.1 m3.2.1 hw hi
        obtain ⟨I0, J0, A0, m⟩ := m2
        refine ⟨u3, ?_, ⟨I, J, A3, m3.to m4 r4 (fun _ _ => rfl) fun j k hj => a4 j k (by omega)⟩, fun z hz => (q4 z hz).trans (q3 z hz)⟩
        rw [m_X7_remove, m.ck, Option.bind_some, k_badR m.1 m.2.1 hw, Option.bind_some, Option.bind_some, if_neg h1', ec, if_neg hz, f1, Option.bind_some, if_pos rfl, c1, Option.bind_some, f2, Option.bind_some, c2, Option.bind_some, f3, Option.bind_some]
theorem B_speed (hn : 600 ≤ n) (H : InvK h w) : ∃ w', mc_3 K n w h (h + 87) (h + 97) xs i = some w' ∧ InvK h w' := by
  obtain ⟨S, P, c, L, B, r, H⟩ := H
  generalize ea : xs (Int32.toNatClampNeg (i + 1)) = a
  generalize ex : xs (Int32.toNatClampNeg (i + 2)) = u
  generalize ey : xs (Int32.toNatClampNeg (i + 3)) = v
  show ∃ w', mcF (fun w1 => m_X7_setVelocity n w1 (h + 87) (xs (Int32.toNatClampNeg (i + 1))) (xs (Int32.toNatClampNeg (i + 2))) (xs (Int32.toNatClampNeg (i + 3)))) (m_L_setVelocity n w h (xs (Int32.toNatClampNeg (i + 1))) (xs (Int32.toNatClampNeg (i + 2))) (xs (Int32.toNatClampNeg (i + 3))) (h + 97)) n (h + 87) (h + 97) = some w' ∧ _
  rw [ea, ex, ey]
  have H0 := H
  obtain ⟨hw, g, sc, M, o⟩ := H
  have eq : q_X6_setVelocity n w h a u v = some (if m_X6_isId a = 0 then 1 else if m_X6_inside u (-9) 9 = 0 then 2 else if m_X6_inside v (-9) 9 = 0 then 2 else if S (5 * a.toNatClampNeg) = 0 then 3 else 0) := by rw [q_X6_setVelocity, g.ck, Option.bind_some, m_refS g, Option.bind_some]
  have no : ∀ k : Int32, ¬ k ≤ 0 → (if m_X6_isId a = 0 then (1 : Int32) else if m_X6_inside u (-9) 9 = 0 then 2 else if m_X6_inside v (-9) 9 = 0 then 2 else if S (5 * a.toNatClampNeg) = 0 then 3 else 0) = k → ∃ w3, m_X7_setVelocity n w (h + 87) a u v = some (0, w3) ∧ MoI w3 (h + 87) S P c L B k ∧ Fr w w3 (h + 87) := fun k hk ek => by
    obtain ⟨w3, e3, m3, q3⟩ := k_no (n := n) hk M
    obtain ⟨I, J, A, m⟩ := M
    refine ⟨w3, ?_, m3, q3⟩
    rw [m_X7_setVelocity, m.ck, Option.bind_some, k_badS m.1 m.2.1 hw, Option.bind_some, Option.bind_some, ek, e3, Option.bind_some, if_neg ne1.1]
  have no1 : (if m_X6_isId a = 0 then (1 : Int32) else if m_X6_inside u (-9) 9 = 0 then 2 else if m_X6_inside v (-9) 9 = 0 then 2 else if S (5 * a.toNatClampNeg) = 0 then 3 else 0) = 1 → ∃ w', mcF (fun w1 => m_X7_setVelocity n w1 (h + 87) a u v) (m_L_setVelocity n w h a u v (h + 97)) n (h + 87) (h + 97) = some w' ∧ InvK h w' := fun hk => case_no H0 ne1.1 (by rw [m_L_setVelocity, g.ck, Option.bind_some, eq, hk, Option.bind_some, if_neg ne1.1, if_pos rfl]) (no 1 pos1.1 hk)
  have no2 : (if m_X6_isId a = 0 then (1 : Int32) else if m_X6_inside u (-9) 9 = 0 then 2 else if m_X6_inside v (-9) 9 = 0 then 2 else if S (5 * a.toNatClampNeg) = 0 then 3 else 0) = 2 → ∃ w', mcF (fun w1 => m_X7_setVelocity n w1 (h + 87) a u v) (m_L_setVelocity n w h a u v (h + 97)) n (h + 87) (h + 97) = some w' ∧ InvK h w' := fun hk => case_no H0 ne1.2.1 (by rw [m_L_setVelocity, g.ck, Option.bind_some, eq, hk, Option.bind_some, if_neg ne1.2.1, if_neg ne1.2.2.2.1, if_pos rfl]) (no 2 pos1.2.1 hk)
  have no3 : (if m_X6_isId a = 0 then (1 : Int32) else if m_X6_inside u (-9) 9 = 0 then 2 else if m_X6_inside v (-9) 9 = 0 then 2 else if S (5 * a.toNatClampNeg) = 0 then 3 else 0) = 3 → ∃ w', mcF (fun w1 => m_X7_setVelocity n w1 (h + 87) a u v) (m_L_setVelocity n w h a u v (h + 97)) n (h + 87) (h + 97) = some w' ∧ InvK h w' := fun hk => case_no H0 ne1.2.2.1 (by rw [m_L_setVelocity, g.ck, Option.bind_some, eq, hk, Option.bind_some, if_neg ne1.2.2.1, if_neg ne1.2.2.2.2.1, if_neg ne1.2.2.2.2.2, if_pos rfl]) (no 3 pos1.2.2 hk)
  rcases id_c a with h1 | ⟨h1, id, hi, rfl⟩
  · exact no1 (if_pos h1)
  · have h1' : ¬ m_X6_isId (nI id) = 0 := by rw [h1]; decide
    have ec : (nI id).toNatClampNeg = id := nI_clamp (by omega)
    rcases sp_c u with h2 | ⟨h2, su⟩
    · exact no2 (by rw [if_neg h1', if_pos h2])
    · have h2' : ¬ m_X6_inside u (-9) 9 = 0 := by rw [h2]; decide
      rcases sp_c v with h3 | ⟨h3, sv⟩
      · exact no2 (by rw [if_neg h1', if_neg h2', if_pos h3])
      · have h3' : ¬ m_X6_inside v (-9) 9 = 0 := by rw [h3]; decide
        by_cases hz : S (5 * id) = 0
        · exact no3 (by rw [if_neg h1', if_neg h2', if_neg h3', ec, if_pos hz])
        · have hk : (if m_X6_isId (nI id) = 0 then (1 : Int32) else if m_X6_inside u (-9) 9 = 0 then 2 else if m_X6_inside v (-9) 9 = 0 then 2 else if S (5 * (nI id).toNatClampNeg) = 0 then 3 else 0) = 0 := by rw [if_neg h1', if_neg h2', if_neg h3', ec, if_neg hz]
          obtain ⟨w1, e1, g1, q1⟩ := m_push6 (n := n) (by omega) g hw
          obtain ⟨w2, e2, g2, q2⟩ := m_setSpeed6 (n := n) (u := u) (v := v) g1 hi
          obtain ⟨F, t, f0, fR⟩ := g1.1
          refine case_ok H0 (w1 := w2) (v := 10 * abI (S (5 * id + 3)) + abI (S (5 * id + 4))) ?_ (hw.spd hi hz su sv) g2 (sc.frame fun z a b => (q2 z (by omega)).trans (q1 z (by omega))) (fun z hz => (q2 z (by omega)).trans (q1 z (by omega))) fun v2 m2 => ?_
          · rw [m_L_setVelocity, g.ck, Option.bind_some, eq, hk, Option.bind_some, if_pos rfl, m_X6_setVelocity, g.ck, Option.bind_some, m_refS g, Option.bind_some, hk, throw0, Option.bind_some, g.n1, Option.bind_some, g.n0, Option.bind_some, g.ck4, Option.bind_some, e1, Option.bind_some, g1.n0, Option.bind_some, f0.q3, Option.bind_some, f0.r3 hi, Option.bind_some, Option.bind_some, f0.q4, Option.bind_some, f0.r4 hi, Option.bind_some, g1.ck, Option.bind_some, e2, Option.bind_some, Option.bind_some, fR.1 3 id (by decide) hi, fR.1 4 id (by decide) hi]
          · obtain ⟨u1, u2, I, J, A, f1, c1, f2, c2, m3, q3⟩ := k_start (n := n) hn m2
            obtain ⟨u3, A3, f3, m4, r4, a4, q4⟩ := k_speeds (n := n) (u := u) (v := v) m3.1 m3.2.1 hi
            obtain ⟨I0, J0, A0, m⟩ := m2
            refine ⟨u3, ?_, ⟨I, J, A3, m3.to m4 r4 (fun _ _ => rfl) fun j k hj => a4 j k (by omega)⟩, fun z hz => (q4 z hz).trans (q3 z hz)⟩
            rw [m_X7_setVelocity, m.ck, Option.bind_some, k_badS m.1 m.2.1 hw, Option.bind_some, Option.bind_some, hk, f1, Option.bind_some, if_pos rfl, c1, Option.bind_some, f2, Option.bind_some, c2, Option.bind_some, f3, Option.bind_some]
theorem tk_c (a : Int32) : m_X6_inside a 1 50 = 0 ∨ m_X6_inside a 1 50 = 1 ∧ ∃ m, m ≤ 50 ∧ a = nI m := by
  unfold m_X6_inside
  by_cases h1 : a < 1
  · exact Or.inl (if_pos h1)
  · rw [if_neg h1]
    by_cases h2 : 50 < a
    · exact Or.inl (if_pos h2)
    · rw [if_neg h2]
      have h0 : ¬ a < 0 := fun q => h1 (Int32.lt_trans q (by decide))
      obtain ⟨j, hj, e⟩ := nI_of2 (M := 50) (n := 50) rfl h0 (Int32.not_lt.mp h2)
      exact Or.inr ⟨rfl, j, hj, e⟩
theorem B_tick (hn : 600 ≤ n) (H : InvK h w) : ∃ w', mc_4 K n w h (h + 87) (h + 97) xs i = some w' ∧ InvK h w' := by
  obtain ⟨S, P, c, L, B, r, H⟩ := H
  generalize ea : xs (Int32.toNatClampNeg (i + 1)) = a
  show ∃ w', mcF (fun w1 => m_X7_tick n w1 (h + 87) (xs (Int32.toNatClampNeg (i + 1)))) (m_L_tick n w h (xs (Int32.toNatClampNeg (i + 1))) (h + 97)) n (h + 87) (h + 97) = some w' ∧ _
  rw [ea]
  have H0 := H
  obtain ⟨hw, g, sc, M, o⟩ := H
  rcases tk_c a with h1 | ⟨h1, m, hm, rfl⟩
  · obtain ⟨w3, e3, m3, q3⟩ := k_no (n := n) (k := 1) (by decide) M
    refine case_no (v := 0) H0 ne1.1 ?_ ⟨w3, ?_, m3, q3⟩
    · rw [m_L_tick, g.ck, Option.bind_some, q_X6_tick, m_X6_refusalOfTicks, if_pos h1, Option.bind_some, if_neg ne1.2.1, if_pos rfl]
    · rw [m_X7_tick, if_pos (show m_X7_areTicks a = 0 from h1), M.ck, Option.bind_some, e3, Option.bind_some, if_neg ne1.1]
  · have h1' : ¬ m_X6_inside (nI m) 1 50 = 0 := by rw [h1]; decide
    obtain ⟨w1, e1, g1, q1⟩ := m_push6 (n := n) (by omega) g hw
    obtain ⟨w2, e2, g2, q2⟩ := m_letPass6 (n := n) (by omega) g1 hw hm
    refine case_ok H0 (w1 := w2) (v := nI (pasT S m)) ?_ (hw.oneN m) g2 (sc.frame fun z a b => (q2 z (by omega)).trans (q1 z (by omega))) (fun z hz => (q2 z (by omega)).trans (q1 z (by omega))) fun v2 m2 => ?_
    · rw [m_L_tick, g.ck, Option.bind_some, q_X6_tick, m_X6_refusalOfTicks, if_neg h1', Option.bind_some, if_pos rfl, m_X6_tick, m_X6_refusalOfTicks, if_neg h1', throw0, Option.bind_some, g.n1, Option.bind_some, g.n0, Option.bind_some, g.ck4, Option.bind_some, e1, Option.bind_some, g1.ck, Option.bind_some, e2, Option.bind_some, Option.bind_some]
    · obtain ⟨u1, u2, I, J, A, f1, c1, f2, c2, m3, q3⟩ := k_start (n := n) hn m2
      obtain ⟨u3, A3, f3, m4, r4, a4, q4⟩ := k_passes (n := n) (by omega) m3.1 m3.2.1 hw hm
      refine ⟨u3, ?_, ⟨I, J, A3, m3.to m4 r4 (fun _ _ => rfl) fun j k hj => a4 j k (by omega)⟩, fun z hz => (q4 z hz).trans (q3 z hz)⟩
      rw [m_X7_tick, if_neg (show ¬ m_X7_areTicks (nI m) = 0 from h1'), m2.ck, Option.bind_some, f1, Option.bind_some, if_pos rfl, c1, Option.bind_some, f2, Option.bind_some, c2, Option.bind_some, f3, Option.bind_some]
theorem B_time (H : InvK h w) : ∃ w', mc_22 K n w h (h + 87) (h + 97) xs i = some w' ∧ InvK h w' := by
  obtain ⟨S, P, c, L, B, r, H⟩ := H
  have H0 := H
  obtain ⟨hw, g, sc, ⟨I, J, A, m⟩, o⟩ := H
  obtain ⟨F, t, f0, fR⟩ := g.1
  obtain ⟨w1, e1, h1, q1⟩ := m.1.p4 0
  have m1 : Mo w1 (h + 87) (setI I 4 0) J A S P c L B 0 := by
    obtain ⟨-, h2, h3, h4, h5, h6, h7⟩ := m
    exact ⟨h1, h2, ⟨by rw [setI_ne (by decide)]; exact h3.1, h3.2⟩, h4, ⟨by rw [setI_ne (by decide)]; exact h5.1, h5.2⟩, h6, setI_self⟩
  refine ⟨w1, ?_, case_raw H0 hw g sc (fun _ _ => rfl) ⟨_, _, _, m1⟩ q1⟩
  have r0 : agI 0 w1 (h + 87 + 1) 140 = some (A 0 140) := h1.r0 (k := 140) (by decide)
  rw [mc_22, g.ck, Option.bind_some, m_X6_time, g.n0, Option.bind_some, f0.i8, Option.bind_some, Option.bind_some, m.ck, Option.bind_some, m_X7_time, e1, Option.bind_some, h1.g0, Option.bind_some, r0, Option.bind_some, Option.bind_some, if_pos (show t = A 0 140 by rw [m.2.1 140 (by decide), fR.2.2])]
end AD
