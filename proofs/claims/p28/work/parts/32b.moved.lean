/-! THE LAW'S isMoved -/
theorem psh_top {S : Nat → Int32} {P : Nat → Nat → Int32} {c : Nat} : pshP c S P (min (c + 1) 4 - 1) = S := by
  unfold pshP
  rw [if_pos (by omega)]
theorem psh_two {S S1 : Nat → Int32} {P : Nat → Nat → Int32} {c : Nat} (hc : c ≤ 4) : pshP (min (c + 1) 4) S1 (pshP c S P) (min (min (c + 1) 4 + 1) 4 - 1 - 1) = S := by
  unfold pshP
  rw [if_neg (by omega)]
  by_cases h : min (c + 1) 4 = 4
  · rw [if_pos h, if_pos (by omega)]
  · rw [if_neg h, if_pos (by omega)]
theorem putS_self {S : Nat → Int32} {id : Nat} (hz : S (5 * id) = 1) : putS S id (S (5 * id + 1)) (S (5 * id + 2)) = S := by
  funext k
  unfold putS upd
  by_cases c2 : k = 5 * id + 2
  · rw [if_pos c2, c2]
  · rw [if_neg c2]
    by_cases c1 : k = 5 * id + 1
    · rw [if_pos c1, c1]
    · rw [if_neg c1]
      by_cases c0 : k = 5 * id
      · rw [if_pos c0, c0, hz]
      · rw [if_neg c0]
theorem putS_h {S : Nat → Int32} {id : Nat} {x y : Int32} : putS S id x y (5 * id) = 1 := by
  unfold putS upd
  rw [if_neg (by omega), if_neg (by omega), if_pos rfl]
theorem touK_le {S S' : Nat → Int32} (hw : WF S) (hw' : WF S') : ∀ k, touK S S' k ≤ 48 * k
  | 0 => Nat.le_refl _
  | k + 1 => by
    have h := touK_le hw hw' k
    have h1 := nds_len hw k
    have h2 := nds_len hw' k
    rw [touK]
    unfold dif
    omega
section KM
variable {n h c L : Nat} {w : Wd} {S : Nat → Int32} {P : Nat → Nat → Int32} {B : Nat → Int32}
theorem l_would1 (hn : 600 ≤ n) (H : Kc w h S P c L B) {id p q : Nat} (hi : id < 24) (hp : p < 64) (hq : q < 64) (hz : S (5 * id) = 1) :
    ∃ w', m_L_wouldTouch n w h (nI id) (nI p) (nI q) = some (nI (touK S (putS S id (nI p) (nI q)) 5), w') ∧ Kc w' h S P c L B := by
  obtain ⟨w', e, k⟩ := x_would hn H hi hp hq hz
  have g := H.2.1
  exact ⟨w', by rw [m_L_wouldTouch, g.ck, Option.bind_some, q_X6_wouldTouch, g.ck, Option.bind_some, m_refP g, Option.bind_some, rP hi hp hq, if_pos hz, Option.bind_some, if_pos rfl, e, Option.bind_some], k⟩
theorem l_would0 (H : Kc w h S P c L B) {id p q : Nat} (hi : id < 24) (hp : p < 64) (hq : q < 64) (hz : S (5 * id) = 0) :
    m_L_wouldTouch n w h (nI id) (nI p) (nI q) = some (-5000002, w) := by
  have g := H.2.1
  rw [m_L_wouldTouch, g.ck, Option.bind_some, q_X6_wouldTouch, g.ck, Option.bind_some, m_refP g, Option.bind_some, rP hi hp hq, if_neg (by rw [hz]; decide), Option.bind_some, if_neg (by decide), if_neg (by decide), if_neg (by decide), if_pos rfl]
theorem l_isMoved (hn : 600 ≤ n) (H : Kc w h S P c L B) {id x y : Nat} (hi : id < 24) (hx : x < 64) (hy : y < 64) :
    ∃ w' P' c', m_L_isMoved n w h (nI id) (nI x) (nI y) = some (1, w') ∧ Kc w' h S P' c' L B := by
  have hw := H.1
  rcases (hw.1 id hi).1 with hz | hz
  · refine ⟨w, P, c, ?_, H⟩
    have p0 : m_LX_point n w h (nI id) 0 = some 0 := by
      have q := l_point (what := 0) hn H hi (by decide)
      rw [show ptV S id 0 = 0 from hz] at q
      exact q
    rw [m_L_isMoved, l_print hn H, Option.bind_some, l_would0 H hi hx hy hz, Option.bind_some, p0, Option.bind_some, if_pos rfl, if_pos rfl, l_print hn H, Option.bind_some, if_pos (cmp_self _)]
  · have hc4 := H.le4
    obtain ⟨a, b, ha, hb, ea, eb, -, -⟩ := codeS_at (hw.1 id hi)
    have hw1 : WF (putS S id (nI x) (nI y)) := hw.put hi hx hy
    have hb5 := touK_le hw hw1 5
    obtain ⟨w2, e2, H2⟩ := l_would1 hn H hi hx hy hz
    have p0 : m_LX_point n w2 h (nI id) 0 = some 1 := by
      have q := l_point (what := 0) hn H2 hi (by decide)
      rw [show ptV S id 0 = 1 from hz] at q
      exact q
    have p1 : m_LX_point n w2 h (nI id) 1 = some (nI a) := by
      rw [← ea]
      exact l_point (what := 1) hn H2 hi (by decide)
    have p2 : m_LX_point n w2 h (nI id) 2 = some (nI b) := by
      rw [← eb]
      exact l_point (what := 2) hn H2 hi (by decide)
    obtain ⟨w3, e3, H3⟩ := x_move hn H2 hi hx hy hz
    obtain ⟨w4, e4, H4⟩ := x_would hn H3 hi ha hb putS_h
    obtain ⟨w5, e5, H5⟩ := x_move hn H4 hi ha hb putS_h
    have back : putS (putS S id (nI x) (nI y)) id (nI a) (nI b) = S := by
      rw [← ea, ← eb]
      exact put_back hz
    rw [back] at e4 e5 H5
    rw [touK_comm hw1 hw 5] at e4 e5
    obtain ⟨w6, e6, H6⟩ := x_undo hn H5 (by omega)
    obtain ⟨w7, e7, H7⟩ := x_undo hn H6 (by omega)
    rw [psh_two hc4] at H7
    refine ⟨w7, _, _, ?_, H7⟩
    have m3 : m_LX_move n w2 h (nI id) (nI x) (nI y) = some (nI (touK S (putS S id (nI x) (nI y)) 5), w3) := by rw [m_LX_move, H2.2.1.ck, Option.bind_some, e3]
    have m4 : m_LX_wouldTouch n w3 h (nI id) (nI a) (nI b) = some (nI (touK S (putS S id (nI x) (nI y)) 5), w4) := by rw [m_LX_wouldTouch, H3.2.1.ck, Option.bind_some, e4]
    have m5 : m_LX_move n w4 h (nI id) (nI a) (nI b) = some (nI (touK S (putS S id (nI x) (nI y)) 5), w5) := by rw [m_LX_move, H4.2.1.ck, Option.bind_some, e5]
    have m6 : m_LX_undo n w5 h = some (nI (min (min (c + 1) 4 + 1) 4 - 1), w6) := by rw [m_LX_undo, H5.2.1.ck, Option.bind_some, e6]
    have m7 : m_LX_undo n w6 h = some (nI (min (min (c + 1) 4 + 1) 4 - 1 - 1), w7) := by rw [m_LX_undo, H6.2.1.ck, Option.bind_some, e7]
    rw [m_L_isMoved, l_print hn H, Option.bind_some, e2, Option.bind_some, p0, Option.bind_some, if_neg (by decide), p1, Option.bind_some, p2, Option.bind_some, l_print hn H2, Option.bind_some, if_pos (cmp_self _), if_neg (nI_pos (by omega)), m3, Option.bind_some, if_pos rfl, m4, Option.bind_some, if_pos rfl, m5, Option.bind_some, if_pos rfl, l_print hn H5, Option.bind_some, if_pos (cmp_self _), m6, Option.bind_some, if_neg (nI_pos (by omega)), m7, Option.bind_some, if_neg (nI_pos (by omega)), l_print hn H7, Option.bind_some, if_pos (cmp_self _)]
    by_cases z1 : nI a = nI x
    · rw [if_pos z1]
      by_cases z2 : nI b = nI y
      · have same : touK S (putS S id (nI x) (nI y)) 5 = 0 := by
          rw [← z1, ← z2, ← ea, ← eb, putS_self hz, touK_self]
        rw [if_pos z2, same]
        exact if_pos rfl
      · rw [if_neg z2]
    · rw [if_neg z1]
end KM
