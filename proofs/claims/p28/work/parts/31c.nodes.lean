/-! THE LAW'S areNodes -/
theorem sz2 : ∀ e, e ≤ 6 → ((1 : Int32) <<< (nI e &&& 31 : Int32)) = nI (2 ^ e) := by decide +kernel
theorem sz_q {q : Nat} (hq : q < 2 ^ 31) (h6 : q % 8 ≤ 6) : m_X3_size (nI q) = nI (2 ^ sqE q) := by
  rw [m_X3_size, sq_exp hq h6]
  exact sz2 _ (sqE_le q)
theorem two_e {q : Nat} (h : 1 ≤ sqE q) : 2 ^ sqE q = 2 * 2 ^ (sqE q - 1) ∧ 1 ≤ 2 ^ (sqE q - 1) ∧ 2 ^ (sqE q - 1) ≤ 32 := by
  have h6 := sqE_le q
  obtain ⟨k, e⟩ : ∃ k, sqE q = k + 1 := ⟨sqE q - 1, by omega⟩
  rw [e, Nat.add_sub_cancel, Nat.pow_succ, Nat.mul_comm]
  refine ⟨rfl, Nat.pow_pos (by decide), ?_⟩
  exact Nat.pow_le_pow_right (n := 2) (by decide) (show k ≤ 5 by omega)
theorem xN_lt {c : Nat} (h : c < 4096) : xN c < 64 ∧ yN c < 64 := ⟨(xy6_all c h).1.2, (xy6_all c h).2.2⟩
section KN
variable {n h c L : Nat} {w : Wd} {S : Nat → Int32} {P : Nat → Nat → Int32} {B : Nat → Int32}
theorem l_index (hn : 600 ≤ n) (H : Kc w h S P c L B) {l i : Nat} (hl : l < 5) {X Y Z : Int32} (hi : i < (nds S l).length) (e0 : ndV S l i 0 = X) (e1 : ndV S l i 1 = Y) (e2 : ndV S l i 2 = Z) : ∃ j, i ≤ j ∧ j < 24 ∧ m_L_indexOf n w h (nI l) X Y Z = some (nI j) := by
  have h24 := nds_len H.1 l
  obtain ⟨v, e, j, j1, j2, rfl⟩ := lp (σ := Int32) (R := Int32) (fun t k s => m_L_indexOf_p6 n t w h (nI l) X Y Z s (nI k)) (fun k s => i < k → ∃ j, i ≤ j ∧ j < 24 ∧ s = nI j) (fun v => ∃ j, i ≤ j ∧ j < 24 ∧ v = nI j) (nds S l).length (by
    intro t k s hk hs
    left
    have le : m_LX_level n w h (nI l) 1 = some (nI (nds S l).length) := l_level (what := 1) hn H hl (by decide)
    have n0 : m_LX_node n w h (nI l) (nI k) 0 = some (ndV S l k 0) := l_node (what := 0) hn H hl hk (by decide)
    have n1 : m_LX_node n w h (nI l) (nI k) 1 = some (ndV S l k 1) := l_node (what := 1) hn H hl hk (by decide)
    have n2 : m_LX_node n w h (nI l) (nI k) 2 = some (ndV S l k 2) := l_node (what := 2) hn H hl hk (by decide)
    have b : ∀ z, m_L_indexOf_p6 n t w h (nI l) X Y Z z (nI k + 1) = m_L_indexOf_p6 n t w h (nI l) X Y Z z (nI (k + 1)) := fun z => by rw [nI_1]
    have keep : i ≠ k → i < k + 1 → ∃ j, i ≤ j ∧ j < 24 ∧ s = nI j := fun a1 a2 => hs (by omega)
    rw [m_L_indexOf_p6, le, Option.bind_some, if_neg (nI_ge hk (by omega)), n0, Option.bind_some]
    by_cases q0 : ndV S l k 0 = X
    · rw [if_pos q0, n1, Option.bind_some]
      by_cases q1 : ndV S l k 1 = Y
      · rw [if_pos q1, n2, Option.bind_some]
        by_cases q2 : ndV S l k 2 = Z
        · rw [if_pos q2]
          exact ⟨nI k, b _, fun a => ⟨k, by omega, by omega, rfl⟩⟩
        · rw [if_neg q2]
          exact ⟨s, b _, keep fun z => q2 (by rw [← z]; exact e2)⟩
      · rw [if_neg q1]
        exact ⟨s, b _, keep fun z => q1 (by rw [← z]; exact e1)⟩
    · rw [if_neg q0]
      exact ⟨s, b _, keep fun z => q0 (by rw [← z]; exact e0)⟩) (by
    intro t s hs
    have le : m_LX_level n w h (nI l) 1 = some (nI (nds S l).length) := l_level (what := 1) hn H hl (by decide)
    exact ⟨s, by rw [m_L_indexOf_p6, le, Option.bind_some, if_pos (Int32.le_refl _)], hs hi⟩) (nds S l).length 0 n (-1) (by omega) (by omega) (fun a => absurd a (Nat.not_lt_zero _))
  exact ⟨j, j1, j2, e⟩
/-- a step over a quadrant -/
theorem an_quad (hn : 600 ≤ n) (H : Kc w h S P c L B) {l k d t : Nat} (hl : l < 5) (hk : k < (nds S l).length) (hd : d < 4) {NN : Int32} {k107 : Wd → Nat → Int32 → Int32 → Int32 → Int32 → Int32 → Int32 → Option Int32} {p q A : Nat} :
    m_L_areNodes_p216 n k107 (t + 1) w h (nI l) NN 1 (nI p) (nI q) (nI k) (nI (xN ((nds S l).getD k 0 / 8))) (nI (yN ((nds S l).getD k 0 / 8))) (nI (2 ^ sqE ((nds S l).getD k 0))) (nI A) (nI d) =
    m_L_areNodes_p216 n k107 t w h (nI l) NN 1 (nI (p + if pcB (cdS S l) (nds S l) (4 * k + d) then 1 else 0)) (nI (q + if ndB (cdS S l) (nds S l) (4 * k + d) then 1 else 0)) (nI k) (nI (xN ((nds S l).getD k 0 / 8))) (nI (yN ((nds S l).getD k 0 / 8))) (nI (2 ^ sqE ((nds S l).getD k 0))) (nI (A + if decide (kidN (cdS S l) ((nds S l).getD k 0) d ≠ 200000) then 1 else 0)) (nI (d + 1)) := by
  have hw := H.1
  have hc := cdS_12 (l := l) hw
  have hN := nds_of hw l
  have h24 := nds_len hw l
  have hq := nd_i hN hk
  have ec := l_child hn H hl hk hd
  have e1 : (4 * k + d) / 4 = k := by omega
  have e2 : (4 * k + d) % 4 = d := by omega
  obtain ⟨m1, m2, m3, m4⟩ := node_m hc hq
  obtain ⟨t1, t2, t3⟩ := two_e m3
  have hx0 := xN_lt m4
  have hb : nI (2 ^ sqE ((nds S l).getD k 0)) / 2 = nI (2 ^ (sqE ((nds S l).getD k 0) - 1)) := by
    rw [show (2 : Int32) = nI 2 from rfl, pk_div (by omega) (by decide) (by decide), t1, Nat.mul_div_cancel_left _ (by decide)]
  have hm2 : jrm (nI d) 2 = nI (d % 2) := by rw [show (2 : Int32) = nI 2 from rfl, jrm_nI (by omega) (by decide) (by decide)]
  have hd2 : nI d / 2 = nI (d / 2) := by rw [show (2 : Int32) = nI 2 from rfl, pk_div (by omega) (by decide) (by decide)]
  have f : ∀ u : Int32, nI u.toNatClampNeg = nI u.toNatClampNeg := fun _ => rfl
  rw [m_L_areNodes_p216, if_neg (show ¬ (4 : Int32) ≤ nI d from nI_ge hd (by decide)), if_neg (by decide), ec, Option.bind_some]
  unfold chV
  unfold pcB ndB
  rw [e1, e2]
  generalize hK : kidN (cdS S l) ((nds S l).getD k 0) d = K
  rcases kid_c hc hq hd with ⟨-, z⟩ | ⟨-, -, z, z2⟩ | ⟨-, -, z, z2⟩
  · -- nothing there
    have hK2 : K = 200000 := by rw [← hK]; exact z
    subst hK2
    have et : tell (nds S l) 200000 = -1 := if_pos rfl
    rw [et, if_neg (by decide), if_neg (by decide), m_L_areNodes_p316, if_neg (by decide), if_pos (by decide), if_pos (by decide), m_L_areNodes_p371, if_pos (by decide)]
    rw [show nI q + 0 = nI (q + 0) from nI_add q 0, show nI p + 0 = nI (p + 0) from nI_add p 0, show nI A + 0 = nI (A + 0) from nI_add A 0, nI_1]
    rfl
  · -- a position
    obtain ⟨x, x1, x2, x3, -⟩ := kid_pos hc hq hd (by omega) (by omega)
    have hx := hc x x1
    have hxy := xN_lt hx
    obtain ⟨g1, g2, g3, g4⟩ := qd_xy hc hq hd hx x3
    rw [hK] at x2
    subst x2
    have et : tell (nds S l) (100000 + x) = nI (1000 + 64 * yN x + xN x) := by
      unfold tell
      rw [if_neg (by omega), if_pos (by omega), Nat.add_sub_cancel_left]
    have p1 : (decide (100000 ≤ 100000 + x) && decide (100000 + x ≠ 200000)) = true := by
      rw [decide_eq_true (show 100000 ≤ 100000 + x by omega), decide_eq_true (show 100000 + x ≠ 200000 by omega)]
      rfl
    have p2 : decide (100000 + x < 40000) = false := decide_eq_false (by omega)
    have p3 : decide (100000 + x ≠ 200000) = true := decide_eq_true (by omega)
    have a0 : (0 : Int32) ≤ nI (1000 + 64 * yN x + xN x) := nI_le (a := 0) (by omega) (by omega)
    have a1 : (1000 : Int32) ≤ nI (1000 + 64 * yN x + xN x) := nI_le (a := 1000) (by omega) (by omega)
    have a2 : ¬ nI (1000 + 64 * yN x + xN x) < 0 := nI_pos (by omega)
    have a3 : ¬ nI (1000 + 64 * yN x + xN x) < 1000 := nI_nlt (b := 1000) (by omega) (by omega)
    have s1 : nI (1000 + 64 * yN x + xN x) - 1000 = nI (64 * yN x + xN x) := by
      rw [show (1000 : Int32) = nI 1000 from rfl, pk_sub (by omega)]
      exact congrArg nI (by omega)
    have s2 : nI (64 * yN x + xN x) / 64 = nI (yN x) := by
      rw [show (64 : Int32) = nI 64 from rfl, pk_div (by omega) (by decide) (by decide)]
      exact congrArg nI (by omega)
    have s3 : jrm (nI (64 * yN x + xN x)) 64 = nI (xN x) := by
      rw [show (64 : Int32) = nI 64 from rfl, jrm_nI (by omega) (by decide) (by decide)]
      exact congrArg nI (by omega)
    rw [et, p1, p2, p3, if_pos a0, if_pos a1, if_pos a0, if_pos a1, s1, s2, s3, m_L_areNodes_p316, if_pos a0, if_neg a3, if_neg a2, if_pos a1, m_L_areNodes_p371, if_neg a2, hb, hm2, hd2, pk_mul, pk_mul, nI_add, nI_add, nI_add, nI_add]
    rw [if_neg (nI_nlt g1 (by omega)), if_neg (nI_ge g2 (by omega)), if_neg (nI_nlt g3 (by omega)), if_neg (nI_ge g4 (by omega)), if_pos a1]
    rw [show nI q + 0 = nI (q + 0) from nI_add q 0, show nI p + 1 = nI (p + 1) from nI_add p 1, show nI A + 1 = nI (A + 1) from nI_add A 1, nI_1]
    rfl
  · -- a node
    rw [hK] at z z2
    have hn' : kidN (cdS S l) ((nds S l).getD k 0) d < 40000 := by rw [hK]; exact z
    obtain ⟨k1, k2, k3⟩ := kid_in hc hq hd hn'
    have kd := kid_dep hc hN hk hd hn'
    rw [hK] at k1 k2 k3 kd
    obtain ⟨i1, i2⟩ := ixN_mem hN.1 ((hN.2 _).mpr z2)
    have lt : k < ixN (nds S l) K := by
      refine ix_lt hN.1 hk i1 ?_
      rw [i2]
      exact sup_lt hc hq k1 k3
    obtain ⟨n1, n2, n3, n4⟩ := node_m hc k1
    obtain ⟨g1, g2, g3, g4⟩ := qd_xy hc hq hd n4 k2
    have hxk := xN_lt n4
    have et : tell (nds S l) K = nI (ixN (nds S l) K) := by
      unfold tell
      rw [if_neg (by omega), if_neg (by omega)]
    have p1 : (decide (100000 ≤ K) && decide (K ≠ 200000)) = false := by
      rw [decide_eq_false (show ¬ 100000 ≤ K by omega)]
      rfl
    have p2 : decide (K < 40000) = true := decide_eq_true z
    have p3 : decide (K ≠ 200000) = true := decide_eq_true (by omega)
    have a0 : (0 : Int32) ≤ nI (ixN (nds S l) K) := nI_le (a := 0) (by omega) (by omega)
    have a1 : ¬ (1000 : Int32) ≤ nI (ixN (nds S l) K) := nI_ge (b := 1000) (by omega) (by decide)
    have a2 : ¬ nI (ixN (nds S l) K) < 0 := nI_pos (by omega)
    have a3 : nI (ixN (nds S l) K) < 1000 := nI_lt (b := 1000) (by omega) (by decide)
    have c0 : m_LX_node n w h (nI l) (nI (ixN (nds S l) K)) 0 = some (nI (xN (K / 8))) := by
      rw [show (0 : Int32) = nI 0 from rfl, l_node hn H hl i1 (by decide)]
      show some (nI (xN ((nds S l).getD (ixN (nds S l) K) 0 / 8))) = _
      rw [i2]
    have c1 : m_LX_node n w h (nI l) (nI (ixN (nds S l) K)) 1 = some (nI (yN (K / 8))) := by
      rw [show (1 : Int32) = nI 1 from rfl, l_node hn H hl i1 (by decide)]
      show some (nI (yN ((nds S l).getD (ixN (nds S l) K) 0 / 8))) = _
      rw [i2]
    have c3 : m_LX_node n w h (nI l) (nI (ixN (nds S l) K)) 3 = some (nI (depN (nds S l) k + 1)) := by
      rw [show (3 : Int32) = nI 3 from rfl, l_node hn H hl i1 (by decide)]
      show some (nI (depN (nds S l) (ixN (nds S l) K))) = _
      rw [kd]
    have c4 : m_LX_node n w h (nI l) (nI k) 3 = some (nI (depN (nds S l) k)) := l_node (what := 3) hn H hl hk (by decide)
    rw [et, p1, p2, p3, if_pos a0, if_neg a1, c0, Option.bind_some, if_pos a0, if_neg a1, c1, Option.bind_some, m_L_areNodes_p316, if_pos a0, if_pos a3, if_neg a2, if_neg a1, m_L_areNodes_p371, if_neg a2, hb, hm2, hd2, pk_mul, pk_mul, nI_add, nI_add, nI_add, nI_add]
    rw [if_neg (nI_nlt g1 (by omega)), if_neg (nI_ge g2 (by omega)), if_neg (nI_nlt g3 (by omega)), if_neg (nI_ge g4 (by omega)), if_neg a1, if_neg (nI_ge lt (by omega)), c3, Option.bind_some, c4, Option.bind_some, if_pos (show nI (depN (nds S l) k + 1) = nI (depN (nds S l) k) + 1 from (nI_add _ 1).symm)]
    rw [show nI q + 1 = nI (q + 1) from nI_add q 1, show nI p + 0 = nI (p + 0) from nI_add p 0, show nI A + 1 = nI (A + 1) from nI_add A 1, nI_1]
    rfl
/-- over a node -/
theorem an_node (hn : 600 ≤ n) (H : Kc w h S P c L B) {l k t : Nat} (hl : l < 5) (hk : k < (nds S l).length) {NN : Int32} :
    m_L_areNodes_p216 n (fun w b0 b1 b2 b4 b5 b6 b7 => m_L_areNodes_p107 n t w b0 b1 b2 b4 b5 b6 b7) n w h (nI l) NN 1 (nI (cB (pcB (cdS S l) (nds S l)) (4 * k))) (nI (cB (ndB (cdS S l) (nds S l)) (4 * k))) (nI k) (nI (xN ((nds S l).getD k 0 / 8))) (nI (yN ((nds S l).getD k 0 / 8))) (nI (2 ^ sqE ((nds S l).getD k 0))) 0 0 =
    m_L_areNodes_p107 n t w h (nI l) NN 1 (nI (cB (pcB (cdS S l) (nds S l)) (4 * (k + 1)))) (nI (cB (ndB (cdS S l) (nds S l)) (4 * (k + 1)))) (nI (k + 1)) := by
  obtain ⟨v, e, -⟩ := lpk (σ := Unit) (τ := Unit) (R := Option Int32) (fun t' d _ => m_L_areNodes_p216 n (fun w b0 b1 b2 b4 b5 b6 b7 => m_L_areNodes_p107 n t w b0 b1 b2 b4 b5 b6 b7) t' w h (nI l) NN 1 (nI (cB (pcB (cdS S l) (nds S l)) (4 * k + d))) (nI (cB (ndB (cdS S l) (nds S l)) (4 * k + d))) (nI k) (nI (xN ((nds S l).getD k 0 / 8))) (nI (yN ((nds S l).getD k 0 / 8))) (nI (2 ^ sqE ((nds S l).getD k 0))) (nI (cB (fun d => decide (kidN (cdS S l) ((nds S l).getD k 0) d ≠ 200000)) d)) (nI d)) (fun _ => m_L_areNodes_p107 n t w h (nI l) NN 1 (nI (cB (pcB (cdS S l) (nds S l)) (4 * (k + 1)))) (nI (cB (ndB (cdS S l) (nds S l)) (4 * (k + 1)))) (nI (k + 1))) (fun _ _ => True) (fun _ => True) 4 (by
    rintro t' d ⟨⟩ hd -
    left
    exact ⟨(), an_quad hn H hl hk hd, trivial⟩) (by
    rintro t' ⟨⟩ -
    refine ⟨(), ?_, trivial⟩
    have c5 : m_LX_node n w h (nI l) (nI k) 5 = some (nI (qdN (cdS S l) ((nds S l).getD k 0))) := l_node (what := 5) hn H hl hk (by decide)
    rw [m_L_areNodes_p216, if_pos (by decide), m_L_areNodes_p506, if_neg (by decide), c5, Option.bind_some, if_pos (show nI (cB (fun d => decide (kidN (cdS S l) ((nds S l).getD k 0) d ≠ 200000)) 4) = nI (qdN (cdS S l) ((nds S l).getD k 0)) from rfl), nI_1]
    rfl) 4 0 n () rfl (by omega) trivial
  exact e
end KN
