/-! THE LAW'S PRINT: a function of the state alone; the reads through the law's wrappers -/
def prP (S : Nat → Int32) : Nat → Int64 → Int64
  | 0, a => a
  | k + 1, a => mxs (ptV S k) 5 (prP S k a)
noncomputable def prC (S : Nat → Int32) : Nat → Int64 → Int64
  | 0, a => a
  | k + 1, a => mxs (cuV S k) 6 (prC S k a)
noncomputable def prL (S : Nat → Int32) : Nat → Int64 → Int64
  | 0, a => a
  | k + 1, a => mxs (fun x => nI (lvV S k x)) 5 (prL S k a)
noncomputable def prn (S : Nat → Int32) : Int64 := mixN (prL S 5 (prC S 4 (prP S 24 (mixN (Int32.toInt64 (S 140)) (nI (wstN S true 24)))))) (clV (ouC S 24) 0)
section KB
variable {n h c L : Nat} {w : Wd} {S : Nat → Int32} {P : Nat → Nat → Int32} {B : Nat → Int32}
theorem l_point (hn : 600 ≤ n) (H : Kc w h S P c L B) {id what : Nat} (hi : id < 24) (hwh : what < 6) : m_LX_point n w h (nI id) (nI what) = some (ptV S id what) := by
  rw [m_LX_point, H.2.1.ck, Option.bind_some, m_point6 (by omega) H.2.1 H.1 hi hwh]
theorem l_level (hn : 600 ≤ n) (H : Kc w h S P c L B) {l what : Nat} (hl : l < 5) (hwh : what < 5) : m_LX_level n w h (nI l) (nI what) = some (nI (lvV S l what)) := by
  rw [m_LX_level, H.2.1.ck, Option.bind_some, m_level6 (by omega) H.2.1 H.1 hl hwh]
theorem l_node (hn : 600 ≤ n) (H : Kc w h S P c L B) {l id what : Nat} (hl : l < 5) (hi : id < (nds S l).length) (hwh : what < 6) : m_LX_node n w h (nI l) (nI id) (nI what) = some (ndV S l id what) := by
  rw [m_LX_node, H.2.1.ck, Option.bind_some, (m_node6 (by omega) H.2.1 H.1 hl hi hwh).2]
theorem l_child (hn : 600 ≤ n) (H : Kc w h S P c L B) {l id d : Nat} (hl : l < 5) (hi : id < (nds S l).length) (hd : d < 4) : m_LX_child n w h (nI l) (nI id) (nI d) = some (chV S l id d) := by
  rw [m_LX_child, H.2.1.ck, Option.bind_some, (m_child6 (by omega) H.2.1 H.1 hl hi hd).2]
theorem l_search (hn : 600 ≤ n) (H : Kc w h S P c L B) {x y what : Nat} {sk : Bool} (hx : x < 64) (hy : y < 64) (hwh : what ≤ 2) : m_LX_search n w h (nI x) (nI y) (bI sk) (nI what) = some (seV S (codeN x y) sk what) := by
  rw [m_LX_search, H.2.1.ck, Option.bind_some, m_search6 (by omega) H.2.1 H.1 hx hy hwh]
theorem l_cursor (hn : 600 ≤ n) (H : Kc w h S P c L B) {cu what : Nat} (hc : cu < 4) (hwh : what < 6) : m_LX_cursor n w h (nI cu) (nI what) = some (cuV S cu what) := by
  rw [m_LX_cursor, H.2.1.ck, Option.bind_some, m_cursor6 (by omega) H.2.1 H.1 hc hwh]
theorem l_closest (hn : 600 ≤ n) (H : Kc w h S P c L B) {what : Nat} (hwh : what < 3) : m_LX_closest n w h (nI what) = some (clV (ouC S 24) what) := by
  rw [m_LX_closest, H.2.1.ck, Option.bind_some, m_close6 (by omega) H.2.1 H.1 hwh]
theorem l_time (H : Kc w h S P c L B) : m_X6_time n w h = some (S 140) := by
  obtain ⟨hw, g, sc⟩ := H
  obtain ⟨F, t, f0, fR⟩ := g.1
  rw [m_X6_time, g.n0, Option.bind_some, f0.i8, Option.bind_some, fR.2.2]
theorem l_printP (hn : 600 ≤ n) (H : Kc w h S P c L B) {a : Int64} : m_L_print_p19 n n w h a 0 = m_L_print_p61 n w h (prP S 24 a) := by
  obtain ⟨v, e, -⟩ := lpk (σ := Unit) (τ := Unit) (R := Option Int64) (fun t k _ => m_L_print_p19 n t w h (prP S k a) (nI k)) (fun _ => m_L_print_p61 n w h (prP S 24 a)) (fun _ _ => True) (fun _ => True) 24 (by
    rintro t k ⟨⟩ hk -
    left
    refine ⟨(), ?_, trivial⟩
    rw [m_L_print_p19, if_neg (show ¬ (24 : Int32) ≤ nI k from nI_ge hk (by decide))]
    obtain ⟨u, e, -⟩ := lpk (σ := Unit) (τ := Unit) (R := Option Int64) (fun t' j _ => m_L_print_p28 n (fun w b0 b1 b3 => m_L_print_p19 n t w b0 b1 b3) t' w h (mxs (ptV S k) j (prP S k a)) (nI k) (nI j)) (fun _ => m_L_print_p19 n t w h (prP S (k + 1) a) (nI (k + 1))) (fun _ _ => True) (fun _ => True) 5 (by
      rintro t' j ⟨⟩ hj -
      left
      refine ⟨(), ?_, trivial⟩
      rw [m_L_print_p28, if_neg (show ¬ (5 : Int32) ≤ nI j from nI_ge hj (by decide)), l_point hn H hk (by omega), Option.bind_some, nI_1]
      rfl) (by
      rintro t' ⟨⟩ -
      exact ⟨(), by rw [m_L_print_p28, if_pos (by decide), nI_1]; rfl, trivial⟩) 5 0 n () rfl (by omega) trivial
    exact e) (by
    rintro t ⟨⟩ -
    exact ⟨(), by rw [m_L_print_p19, if_pos (by decide)], trivial⟩) 24 0 n () rfl (by omega) trivial
  exact e
theorem l_printC (hn : 600 ≤ n) (H : Kc w h S P c L B) {a : Int64} : m_L_print_p61 n w h a = m_L_print_p105 n w h (prC S 4 a) := by
  obtain ⟨v, e, -⟩ := lpk (σ := Unit) (τ := Unit) (R := Option Int64) (fun t k _ => m_L_print_p63 n t w h (prC S k a) (nI k)) (fun _ => m_L_print_p105 n w h (prC S 4 a)) (fun _ _ => True) (fun _ => True) 4 (by
    rintro t k ⟨⟩ hk -
    left
    refine ⟨(), ?_, trivial⟩
    rw [m_L_print_p63, if_neg (show ¬ (4 : Int32) ≤ nI k from nI_ge hk (by decide))]
    obtain ⟨u, e, -⟩ := lpk (σ := Unit) (τ := Unit) (R := Option Int64) (fun t' j _ => m_L_print_p71 n (fun w b0 b1 b3 => m_L_print_p63 n t w b0 b1 b3) t' w h (mxs (cuV S k) j (prC S k a)) (nI k) (nI j)) (fun _ => m_L_print_p63 n t w h (prC S (k + 1) a) (nI (k + 1))) (fun _ _ => True) (fun _ => True) 6 (by
      rintro t' j ⟨⟩ hj -
      left
      refine ⟨(), ?_, trivial⟩
      rw [m_L_print_p71, if_neg (show ¬ (6 : Int32) ≤ nI j from nI_ge hj (by decide)), l_cursor hn H hk (by omega), Option.bind_some, nI_1]
      rfl) (by
      rintro t' ⟨⟩ -
      exact ⟨(), by rw [m_L_print_p71, if_pos (by decide), nI_1]; rfl, trivial⟩) 6 0 n () rfl (by omega) trivial
    exact e) (by
    rintro t ⟨⟩ -
    exact ⟨(), by rw [m_L_print_p63, if_pos (by decide)], trivial⟩) 4 0 n () rfl (by omega) trivial
  unfold m_L_print_p61
  exact e
theorem l_printL (hn : 600 ≤ n) (H : Kc w h S P c L B) {a : Int64} : m_L_print_p105 n w h a = m_L_print_p148 n w h (prL S 5 a) := by
  obtain ⟨v, e, -⟩ := lpk (σ := Unit) (τ := Unit) (R := Option Int64) (fun t k _ => m_L_print_p107 n t w h (prL S k a) (nI k)) (fun _ => m_L_print_p148 n w h (prL S 5 a)) (fun _ _ => True) (fun _ => True) 5 (by
    rintro t k ⟨⟩ hk -
    left
    refine ⟨(), ?_, trivial⟩
    rw [m_L_print_p107, if_neg (show ¬ (5 : Int32) ≤ nI k from nI_ge hk (by decide))]
    obtain ⟨u, e, -⟩ := lpk (σ := Unit) (τ := Unit) (R := Option Int64) (fun t' j _ => m_L_print_p115 n (fun w b0 b1 b3 => m_L_print_p107 n t w b0 b1 b3) t' w h (mxs (fun x => nI (lvV S k x)) j (prL S k a)) (nI k) (nI j)) (fun _ => m_L_print_p107 n t w h (prL S (k + 1) a) (nI (k + 1))) (fun _ _ => True) (fun _ => True) 5 (by
      rintro t' j ⟨⟩ hj -
      left
      refine ⟨(), ?_, trivial⟩
      rw [m_L_print_p115, if_neg (show ¬ (5 : Int32) ≤ nI j from nI_ge hj (by decide)), l_level hn H hk hj, Option.bind_some, nI_1]
      rfl) (by
      rintro t' ⟨⟩ -
      exact ⟨(), by rw [m_L_print_p115, if_pos (by decide), nI_1]; rfl, trivial⟩) 5 0 n () rfl (by omega) trivial
    exact e) (by
    rintro t ⟨⟩ -
    exact ⟨(), by rw [m_L_print_p107, if_pos (by decide)], trivial⟩) 5 0 n () rfl (by omega) trivial
  unfold m_L_print_p105
  exact e
theorem l_print (hn : 600 ≤ n) (H : Kc w h S P c L B) : m_L_print n w h = some (prn S) := by
  have e1 : m_X6_worst n w h 1 = some (nI (wstN S true 24)) := m_worst6 (sk := true) (by omega) H.2.1 H.1
  have e2 : m_LX_closest n w h 0 = some (clV (ouC S 24) 0) := l_closest (what := 0) hn H (by decide)
  rw [m_L_print, H.2.1.ck, Option.bind_some, l_time H, Option.bind_some, Option.bind_some, e1, Option.bind_some, l_printP hn H, l_printC hn H, l_printL hn H, m_L_print_p148, e2, Option.bind_some]
  rfl
theorem cmp_self (a : Int64) : lg_cmp a a = 0 := by
  unfold lg_cmp
  rw [if_neg (Int64.lt_irrefl)]
  simp
/-! what is refused -/
theorem l_refused (hn : 600 ≤ n) (H : Kc w h S P c L B) : m_L_refused n w h = some (1, w) := by
  have g := H.2.1
  have hw := H.1
  obtain ⟨⟨wd, po, fa, s0⟩, -⟩ := H.2.2
  have hl : (nds S 0).length ≤ 24 := nds_len hw 0
  have p := l_print hn H
  have a1 : m_L_add n w h 99 0 0 = some (-5000003, w) := by
    rw [m_L_add, g.ck, Option.bind_some, q_X6_add, g.ck, Option.bind_some, m_refP g, Option.bind_some, if_pos (by decide), Option.bind_some, if_neg (by decide), if_pos rfl]
  have a2 : m_L_move n w h (-5) 0 0 = some (-5000003, w) := by
    rw [m_L_move, g.ck, Option.bind_some, q_X6_move, g.ck, Option.bind_some, m_refP g, Option.bind_some, if_pos (by decide), Option.bind_some, if_neg (by decide), if_pos rfl]
  have a3 : m_L_remove n w h 24 = some (-5000003, w) := by
    rw [m_L_remove, g.ck, Option.bind_some, q_X6_remove, g.ck, Option.bind_some, m_refD g, Option.bind_some, if_pos (by decide), Option.bind_some, if_neg (by decide), if_pos rfl]
  have a4 : m_L_setVelocity n w h 24 0 0 = some (-5000003, w) := by
    rw [m_L_setVelocity, g.ck, Option.bind_some, q_X6_setVelocity, g.ck, Option.bind_some, m_refS g, Option.bind_some, if_pos (by decide), Option.bind_some, if_neg (by decide), if_pos rfl]
  have a5 : m_L_tick n w h (-1) = some (-5000001, w) := by
    rw [m_L_tick, g.ck, Option.bind_some, q_X6_tick, show m_X6_refusalOfTicks (-1) = 2 by decide, Option.bind_some, if_neg (by decide), if_pos rfl]
  have a6 : m_L_scatter n w h (-1) 1 1 1 = some (-5000003, w) := by
    rw [m_L_scatter, g.ck, Option.bind_some, q_X6_scatter, show m_X6_refusalOfScatter (-1) 1 1 1 = 1 by decide, Option.bind_some, if_neg (by decide), if_pos rfl]
  have a7 : m_L_scatter n w h 23 2 1 1 = some (-5000001, w) := by
    rw [m_L_scatter, g.ck, Option.bind_some, q_X6_scatter, show m_X6_refusalOfScatter 23 2 1 1 = 2 by decide, Option.bind_some, if_neg (by decide), if_neg (by decide), if_pos rfl]
  have a8 : m_L_point n w h (-1) 0 = some (-5000003, w) := by
    rw [m_L_point, g.ck, Option.bind_some, q_X6_point, show m_X6_refusalOfValue (-1) 24 0 5 = 1 by decide, Option.bind_some, if_neg (by decide), if_pos rfl]
  have a9 : m_L_level n w h 0 (-1) = some (-5000001, w) := by
    rw [m_L_level, g.ck, Option.bind_some, q_X6_level, show m_X6_refusalOfValue 0 5 (-1) 4 = 2 by decide, Option.bind_some, if_neg (by decide), if_neg (by decide), if_pos rfl]
  have a10 : m_L_node n w h 5 0 0 = some (-5000003, w) := by
    rw [m_L_node, g.ck, Option.bind_some, q_X6_node, g.ck, Option.bind_some, m_X6_refusalOfNode, if_pos (by decide), Option.bind_some, Option.bind_some, if_neg (by decide), if_pos rfl]
  have a11 : m_L_child n w h 0 24 0 = some (-5000003, w) := by
    have q : m_X6_refusalOfNode n w h 0 24 0 3 = some 1 := by
      rcases rn_c (n := n) (a := nI 0) (x := nI 24) (y := nI 0) (gr := 3) (by omega) g hw (by decide) with ⟨z, -⟩ | ⟨l, id, -, z1, -, z2, -⟩
      · exact z
      · have := (nI_eq (by decide) (by have := nds_len hw l; omega)).mp z2
        have := nds_len hw l
        omega
    rw [m_L_child, g.ck, Option.bind_some, q_X6_child, g.ck, Option.bind_some, q, Option.bind_some, Option.bind_some, if_neg (by decide), if_pos rfl]
  have a12 : m_L_search n w h (-1) 0 0 0 = some (-5000001, w) := by
    rw [m_L_search, g.ck, Option.bind_some, q_X6_search, if_pos (by decide), Option.bind_some, if_neg (by decide), if_pos rfl]
  have b1 : m_L_wouldTouch n w h 24 0 0 = some (-5000003, w) := by
    rw [m_L_wouldTouch, g.ck, Option.bind_some, q_X6_wouldTouch, g.ck, Option.bind_some, m_refP g, Option.bind_some, if_pos (by decide), Option.bind_some, if_neg (by decide), if_pos rfl]
  have b2 : m_L_open n w h (-1) 0 0 = some (-5000003, w) := by
    rw [m_L_open, g.ck, Option.bind_some, q_X6_open, show m_X6_refusalOfOpen (-1) 0 0 = 1 by decide, Option.bind_some, if_neg (by decide), if_pos rfl]
  have b3 : m_L_next n w h 4 = some (-5000003, w) := by
    rw [m_L_next, g.ck, Option.bind_some, q_X6_next, if_pos (by decide), Option.bind_some, if_neg (by decide), if_pos rfl]
  have b4 : m_L_cursor n w h 4 0 = some (-5000003, w) := by
    rw [m_L_cursor, g.ck, Option.bind_some, q_X6_cursor, show m_X6_refusalOfValue 4 4 0 5 = 1 by decide, Option.bind_some, if_neg (by decide), if_pos rfl]
  have b5 : m_L_nearest n w h 64 0 0 = some (-5000001, w) := by
    rw [m_L_nearest, g.ck, Option.bind_some, q_X6_nearest, if_pos (by decide), Option.bind_some, if_neg (by decide), if_pos rfl]
  have b6 : m_L_within n w h (-1) 0 0 0 = some (-5000001, w) := by
    rw [m_L_within, g.ck, Option.bind_some, q_X6_within, if_pos (by decide), Option.bind_some, if_neg (by decide), if_pos rfl]
  have b7 : m_L_closest n w h (-1) = some (-5000001, w) := by
    rw [m_L_closest, g.ck, Option.bind_some, q_X6_closest, if_pos (by decide), Option.bind_some, if_neg (by decide), if_pos rfl]
  have b8 : m_L_type n w h 500 = some (-5000001, w) := by
    rw [m_L_type, g.ck, Option.bind_some, q_X6_type, g.ck, Option.bind_some, m_X6_refusalOfByte, if_pos (by decide), Option.bind_some, Option.bind_some, if_neg (by decide), if_pos rfl]
  have r2 : m_L_refused_p157 n w 1 h (prn S) = some (1, w) := by
    rw [m_L_refused_p157, if_neg (by decide), b1, Option.bind_some, if_pos rfl, b2, Option.bind_some, if_pos rfl, b3, Option.bind_some, if_pos rfl, b4, Option.bind_some, if_pos rfl, b5, Option.bind_some, if_pos rfl, b6, Option.bind_some, if_pos rfl, b7, Option.bind_some, if_pos rfl, b8, Option.bind_some, if_pos rfl, p, Option.bind_some, if_pos (cmp_self _)]
  rw [m_L_refused, p, Option.bind_some, a1, Option.bind_some, if_pos rfl, a2, Option.bind_some, if_pos rfl, a3, Option.bind_some, if_pos rfl, a4, Option.bind_some, if_pos rfl, a5, Option.bind_some, if_pos rfl, a6, Option.bind_some, if_pos rfl, a7, Option.bind_some, if_pos rfl, a8, Option.bind_some, if_pos rfl, a9, Option.bind_some, if_pos rfl, a10, Option.bind_some, if_pos rfl, a11, Option.bind_some, if_pos rfl, a12, Option.bind_some, if_pos rfl, r2]
end KB
