/-! THE LAW'S areSearches -/
theorem xy_code : ∀ x, x < 64 → ∀ y, y < 64 → xN (codeN x y) = x ∧ yN (codeN x y) = y := by decide +kernel
theorem code_lt {x y : Nat} (hx : x < 64) (hy : y < 64) : codeN x y < 4096 := (code6_all x hx y hy).2
section KS
variable {n h c L : Nat} {w : Wd} {S : Nat → Int32} {P : Nat → Nat → Int32} {B : Nat → Int32}
theorem as_loop (hn : 600 ≤ n) (H : Kc w h S P c L B) : m_L_areSearches_p152 n n w h 1 0 = some 1 := by
  have hw := H.1
  have g := H.2.1
  have h24 := nds_len hw 0
  obtain ⟨v, e, rfl⟩ := lp (σ := Unit) (R := Int32) (fun t k _ => m_L_areSearches_p152 n t w h 1 (nI k)) (fun _ _ => True) (fun v => v = 1) 24 (by
    rintro t k ⟨⟩ hk -
    left
    refine ⟨(), ?_, trivial⟩
    obtain ⟨x, y, hx, hy, ex, ey, ec, hc⟩ := codeS_at (hw.1 k hk)
    have p0 : m_LX_point n w h (nI k) 0 = some (S (5 * k)) := l_point (what := 0) hn H hk (by decide)
    have p1 : m_LX_point n w h (nI k) 1 = some (nI x) := by
      rw [← ex]
      exact l_point (what := 1) hn H hk (by decide)
    have p2 : m_LX_point n w h (nI k) 2 = some (nI y) := by
      rw [← ey]
      exact l_point (what := 2) hn H hk (by decide)
    have s1 : m_LX_search n w h (nI x) (nI y) 1 0 = some (nI (fnd S (codeS S k) true).2) := by
      rw [ec]
      exact l_search (what := 0) (sk := true) hn H hx hy (by decide)
    have s2 : m_LX_search n w h (nI x) (nI y) 0 0 = some (nI (fnd S (codeS S k) false).2) := by
      rw [ec]
      exact l_search (what := 0) (sk := false) hn H hx hy (by decide)
    have w1 : m_X6_worst n w h 1 = some (nI (wstN S true 24)) := m_worst6 (sk := true) (by omega) g hw
    have w2 : m_X6_worst n w h 0 = some (nI (wstN S false 24)) := m_worst6 (sk := false) (by omega) g hw
    rw [m_L_areSearches_p152, if_neg (show ¬ (24 : Int32) ≤ nI k from nI_ge hk (by decide)), if_neg (by decide), p0, Option.bind_some]
    by_cases z : S (5 * k) = 0
    · rw [if_pos z, nI_1]
    · have hh : herB S k = true := decide_eq_true z
      have q1 := wst_ge (sk := true) hk hh
      have q2 := wst_ge (sk := false) hk hh
      have b1 := (fnd_ok hw (codeS S k) true).2
      have b2 := (fnd_ok hw (codeS S k) false).2
      have u1 := wst_bd hw true (Nat.le_refl 24)
      have u2 := wst_bd hw false (Nat.le_refl 24)
      rw [if_neg z, p1, Option.bind_some, p2, Option.bind_some, s1, Option.bind_some, g.ck, Option.bind_some, w1, Option.bind_some, if_neg (nI_nlt q1 (by omega)), Option.bind_some, Option.bind_some, s2, Option.bind_some, Option.bind_some, w2, Option.bind_some, if_neg (nI_nlt q2 (by omega)), nI_1]) (by
    rintro t ⟨⟩ -
    have w2 : m_X6_worst n w h 0 = some (nI (wstN S false 24)) := m_worst6 (sk := false) (by omega) g hw
    have l2 : m_LX_level n w h 0 2 = some (nI (gdN (nds S 0) (nds S 0).length)) := l_level (l := 0) (what := 2) hn H (by decide) (by decide)
    have gb : gdN (nds S 0) (nds S 0).length ≤ 24 := Nat.le_trans (gd_bd _ _ _ (Nat.le_refl _)) h24
    refine ⟨1, ?_, rfl⟩
    rw [m_L_areSearches_p152, if_pos (by decide), m_L_areSearches_p241, if_neg (by decide), g.ck, Option.bind_some, w2, Option.bind_some, l2, Option.bind_some, if_neg (nI_nlt (wst_le hw (Nat.le_refl 24)) (by omega))]) 24 0 n () rfl (by omega) trivial
  exact e
theorem l_areSearches (hn : 600 ≤ n) (H : Kc w h S P c L B) {x y : Nat} (hx : x < 64) (hy : y < 64) : m_L_areSearches n w h (nI x) (nI y) = some 1 := by
  have hw := H.1
  have hc := cdS_12 (l := 0) hw
  have hN := nds_of hw 0
  have h24 := nds_len hw 0
  have hcc := code_lt hx hy
  obtain ⟨xe, ye⟩ := xy_code x hx y hy
  have same := fnd_same hw hcc
  obtain ⟨d1, d2, d3⟩ := fnd_deep hw hcc false
  obtain ⟨i1, i2⟩ := ixN_mem hN.1 ((hN.2 _).mpr d1)
  obtain ⟨m1, m2, m3, m4⟩ := node_m hc d1
  obtain ⟨y1, y2, y3, y4, y5, y6⟩ := sq_xy hc d1 hcc d2
  obtain ⟨t1, t2, t3⟩ := two_e m3
  have hx0 := xN_lt m4
  rw [xe] at y3 y4
  rw [ye] at y5 y6
  have a1 : m_LX_search n w h (nI x) (nI y) 1 1 = some (nI (ixN (nds S 0) (fnd S (codeN x y) false).1)) := by
    rw [← same]
    exact l_search (what := 1) (sk := true) hn H hx hy (by decide)
  have a2 : m_LX_search n w h (nI x) (nI y) 0 1 = some (nI (ixN (nds S 0) (fnd S (codeN x y) false).1)) := l_search (what := 1) (sk := false) hn H hx hy (by decide)
  have a3 : m_LX_search n w h (nI x) (nI y) 1 2 = some (m_X3_size (nI (fnd S (codeN x y) false).1)) := by
    rw [← same]
    exact l_search (what := 2) (sk := true) hn H hx hy (by decide)
  have a4 : m_LX_search n w h (nI x) (nI y) 0 2 = some (m_X3_size (nI (fnd S (codeN x y) false).1)) := l_search (what := 2) (sk := false) hn H hx hy (by decide)
  have a5 : m_LX_search n w h (nI x) (nI y) 0 0 = some (nI (depN (nds S 0) (ixN (nds S 0) (fnd S (codeN x y) false).1))) := by
    rw [← fnd_steps hw hcc]
    exact l_search (what := 0) (sk := false) hn H hx hy (by decide)
  have n0 : m_LX_node n w h 0 (nI (ixN (nds S 0) (fnd S (codeN x y) false).1)) 0 = some (nI (xN ((fnd S (codeN x y) false).1 / 8))) := by
    have := l_node (l := 0) (what := 0) hn H (by decide) i1 (by decide)
    have e : ndV S 0 (ixN (nds S 0) (fnd S (codeN x y) false).1) 0 = nI (xN ((fnd S (codeN x y) false).1 / 8)) := by
      show nI (xN ((nds S 0).getD (ixN (nds S 0) (fnd S (codeN x y) false).1) 0 / 8)) = _
      rw [i2]
    rw [e] at this
    exact this
  have n1 : m_LX_node n w h 0 (nI (ixN (nds S 0) (fnd S (codeN x y) false).1)) 1 = some (nI (yN ((fnd S (codeN x y) false).1 / 8))) := by
    have := l_node (l := 0) (what := 1) hn H (by decide) i1 (by decide)
    have e : ndV S 0 (ixN (nds S 0) (fnd S (codeN x y) false).1) 1 = nI (yN ((fnd S (codeN x y) false).1 / 8)) := by
      show nI (yN ((nds S 0).getD (ixN (nds S 0) (fnd S (codeN x y) false).1) 0 / 8)) = _
      rw [i2]
    rw [e] at this
    exact this
  have n2 : m_LX_node n w h 0 (nI (ixN (nds S 0) (fnd S (codeN x y) false).1)) 2 = some (nI (2 ^ sqE (fnd S (codeN x y) false).1)) := by
    have := l_node (l := 0) (what := 2) hn H (by decide) i1 (by decide)
    have e : ndV S 0 (ixN (nds S 0) (fnd S (codeN x y) false).1) 2 = nI (2 ^ sqE (fnd S (codeN x y) false).1) := by
      show m_X3_size (nI ((nds S 0).getD (ixN (nds S 0) (fnd S (codeN x y) false).1) 0)) = _
      rw [i2, sz_q (by omega) m2]
    rw [e] at this
    exact this
  have n3 : m_LX_node n w h 0 (nI (ixN (nds S 0) (fnd S (codeN x y) false).1)) 3 = some (nI (depN (nds S 0) (ixN (nds S 0) (fnd S (codeN x y) false).1))) := l_node (l := 0) (what := 3) hn H (by decide) i1 (by decide)
  rw [m_L_areSearches, a1, Option.bind_some, a2, Option.bind_some, if_pos rfl, a3, Option.bind_some, a4, Option.bind_some, if_pos rfl, m_L_areSearches_p43, a2, Option.bind_some, if_neg (by decide), n0, Option.bind_some, if_neg (nI_nlt y3 (by omega)), n1, Option.bind_some, if_neg (nI_nlt y5 (by omega)), Option.bind_some, n2, Option.bind_some, nI_add, if_neg (nI_ge y4 (by omega)), Option.bind_some, Option.bind_some, nI_add, if_neg (nI_ge y6 (by omega)), a5, Option.bind_some, n3, Option.bind_some, if_pos rfl]
  exact as_loop hn H
end KS
