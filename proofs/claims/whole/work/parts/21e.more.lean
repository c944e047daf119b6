/-! COUNTS, SCATTER, UNDO, wouldTouch, open -/
def cB (p : Nat → Bool) : Nat → Nat
  | 0 => 0
  | k + 1 => cB p k + if p k then 1 else 0
theorem cB_le (p : Nat → Bool) : ∀ k, cB p k ≤ k
  | 0 => Nat.le_refl 0
  | k + 1 => by
    have := cB_le p k
    unfold cB
    split <;> omega
theorem cB_cong {p q : Nat → Bool} : ∀ {k : Nat}, (∀ i, i < k → p i = q i) → cB p k = cB q k
  | 0, _ => rfl
  | k + 1, h => by
    unfold cB
    rw [cB_cong (k := k) fun i hi => h i (by omega), h k (Nat.lt_succ_self k)]
theorem cB_s (p : Nat → Bool) (k : Nat) : cB p (k + 1) = cB p k + if p k then 1 else 0 := rfl
def herB (S : Nat → Int32) (i : Nat) : Bool := decide (S (5 * i) ≠ 0)
theorem her0 {S : Nat → Int32} {i : Nat} (h : S (5 * i) = 0) : herB S i = false := decide_eq_false fun q => q h
theorem her1 {S : Nat → Int32} {i : Nat} (h : S (5 * i) ≠ 0) : herB S i = true := decide_eq_true h
theorem m_count {n : Nat} (hn : 30 ≤ n) {w : Wd} {a : Nat} {S : Nat → Int32} (h : StW w a S) : m_X4_count n w a = some (nI (cB (herB S) 24)) := by
  obtain ⟨F, t0, h0, hR⟩ := h
  unfold m_X4_count
  obtain ⟨v, e, rfl⟩ := lp (σ := Unit) (R := Int32) (fun t k _ => m_X4_count_p4 n t w a (nI (cB (herB S) k)) (nI k)) (fun _ _ => True) (fun v => v = nI (cB (herB S) 24)) 24 (by
    rintro t k ⟨⟩ hk -
    left
    refine ⟨(), ?_, trivial⟩
    rw [m_X4_count_p4, if_neg (show ¬ (24 : Int32) ≤ nI k from nI_ge hk (by decide)), h0.q0, Option.bind_some, h0.r0 hk, Option.bind_some, hR.1 0 k (by decide) hk, Nat.add_zero]
    rw [cB_s]
    by_cases c : S (5 * k) = 0
    · rw [if_pos c, her0 c, if_neg (by decide), Int32.add_zero, nI_1]
      rfl
    · rw [if_neg c, her1 c, if_pos rfl, nI_1, nI_1]) (by
    rintro t ⟨⟩ -
    exact ⟨_, by rw [m_X4_count_p4, if_pos (by decide)], rfl⟩) 24 0 n () rfl (by omega) trivial
  exact e
theorem k_many {n : Nat} (hn : 30 ≤ n) {w : Wd} {b : Nat} {I : Nat → Int32} {J : Nat → Int64} {A : Rw} {S : Nat → Int32} (h : MoC w b I J A) (hr : Row A S) (hw : WF S) : m_X7_pointMany n w b = some (nI (cB (herB S) 24)) := by
  unfold m_X7_pointMany
  obtain ⟨v, e, rfl⟩ := lp (σ := Unit) (R := Int32) (fun t k _ => m_X7_pointMany_p4 n t w b (nI (cB (herB S) k)) (nI k)) (fun _ _ => True) (fun v => v = nI (cB (herB S) 24)) 24 (by
    rintro t k ⟨⟩ hk -
    left
    refine ⟨(), ?_, trivial⟩
    rw [m_X7_pointMany_p4, if_neg (show ¬ (24 : Int32) ≤ nI k from nI_ge hk (by decide)), h.g0, Option.bind_some, e5, h.r0 (by omega), Option.bind_some, hr _ (by omega)]
    rw [cB_s]
    rcases (hw.1 k hk).1 with c | c
    · rw [c, her0 c, if_neg (by decide), Int32.add_zero, nI_1]
      rfl
    · rw [c, her1 (by rw [c]; decide), if_pos rfl, nI_1, nI_1]) (by
    rintro t ⟨⟩ -
    exact ⟨_, by rw [m_X7_pointMany_p4, if_pos (by decide)], rfl⟩) 24 0 n () rfl (by omega) trivial
  exact e
/-! drawn numbers -/
def nxt (D : Nat) : Nat := (1103515245 * D + 12345) % 2147483648
def scaD (D : Nat) : Nat → Nat
  | 0 => D
  | k + 1 => nxt (scaD D k)
theorem nxt_lt (D : Nat) : nxt D < 2 ^ 31 := Nat.mod_lt _ (by decide)
theorem scaD_lt {D : Nat} (h : D < 2 ^ 31) : ∀ k, scaD D k < 2 ^ 31
  | 0 => h
  | k + 1 => nxt_lt _
def scaS (S : Nat → Int32) (D ar f : Nat) : Nat → Nat → Int32
  | 0 => S
  | k + 1 => putS (scaS S D ar f k) (f + k) (nI (scaD D (2 * k + 1) / 65536 % ar)) (nI (scaD D (2 * k + 2) / 65536 % ar))
theorem WF.sca {S : Nat → Int32} {D ar f : Nat} (hw : WF S) (h1 : 1 ≤ ar) (h2 : ar ≤ 64) : ∀ (k : Nat), f + k ≤ 24 → WF (scaS S D ar f k)
  | 0, _ => hw
  | k + 1, h => (WF.sca hw h1 h2 k (by omega)).put (by omega) (Nat.lt_of_lt_of_le (Nat.mod_lt _ (by omega)) h2) (Nat.lt_of_lt_of_le (Nat.mod_lt _ (by omega)) h2)
theorem m_nxt {D : Nat} (h : D < 2 ^ 31) : jrmL ((1103515245 * lN D) + 12345) 2147483648 = lN (nxt D) := by
  rw [show (1103515245 : Int64) = lN 1103515245 from rfl, lN_mul, show (12345 : Int64) = lN 12345 from rfl, lN_add, show (2147483648 : Int64) = lN 2147483648 from rfl]
  exact pk_lRem (by omega) (by decide) (by decide)
theorem m_placeIn {n : Nat} {w : Wd} {D ar : Nat} (h : D < 2 ^ 31) (h1 : 1 ≤ ar) (h2 : ar ≤ 64) : m_X6_placeIn n w (lN D) (nI ar) = some (nI (D / 65536 % ar)) := by
  have e : lN D / 65536 = lN (D / 65536) := pk_lDiv (b := 65536) (by omega) (by decide) (by decide)
  have hz : ¬ lN ar = 0 := fun q => by
    have := (pk_lEQ (a := ar) (b := 0) (by omega) (by decide)).mp q
    omega
  rw [m_X6_placeIn, if_neg (nI_nle h1 (by omega)), e, nI_l (by omega), remL, if_neg hz, Option.bind_some]
  unfold jrmL
  rw [pk_lRem (by omega) h1 (by omega), lN_i]
theorem k_draws {n : Nat} {w : Wd} {b D ar : Nat} {I : Nat → Int32} {J : Nat → Int64} {A : Rw} (m : MoC w b I J A) (hJ : J 11 = lN D) (h : D < 2 ^ 31) (h1 : 1 ≤ ar) (h2 : ar ≤ 64) : ∃ w', m_X7_draws n w b (nI ar) = some (nI (nxt D / 65536 % ar), w') ∧ MoC w' b I (setJ J 11 (lN (nxt D))) A ∧ Fr w w' b := by
  obtain ⟨w1, e1, m1, q1⟩ := m.q11 (lN (nxt D))
  refine ⟨w1, ?_, m1, q1⟩
  have hl := nxt_lt D
  have e : lN (nxt D) / 65536 = lN (nxt D / 65536) := pk_lDiv (b := 65536) (by omega) (by decide) (by decide)
  have hz : ¬ nI ar = 0 := nI_ne0 h1 (by omega)
  rw [m_X7_draws, m.j11, Option.bind_some, hJ, m_nxt h, e1, Option.bind_some, m1.j11, Option.bind_some, setJ_self, e, lN_i, remI, if_neg hz, Option.bind_some, jrm_nI (by omega) h1 (by omega)]
section SC
variable {n h c L : Nat} {w : Wd} {S : Nat → Int32} {P : Nat → Nat → Int32} {B : Nat → Int32} {r : Int32} {K : Nat → Nat} {xs : Nat → Int32} {i : Int32}
theorem m_scatter6 {f m ar sd : Nat} (hn : 80 ≤ n) (g : ClI w h S P c) (hw : WF S) (hf : f < 24) (hm : f + m ≤ 24) (h1 : 1 ≤ ar) (h2 : ar ≤ 64) (hs : sd < 2 ^ 31) : ∃ w', m_X6_scatter_p30 n n w h (nI f) (nI m) (nI ar) (lN sd) (nI f) = some (nI (cB (herB (scaS S sd ar f m)) 24), w') ∧ ClI w' h (scaS S sd ar f m) P c ∧ FrC w w' h := by
  obtain ⟨z, e, w2, rfl, g2, q2⟩ := lp (σ := Wd) (R := Int32 × Wd) (fun t k v => m_X6_scatter_p30 n t v h (nI f) (nI m) (nI ar) (lN (scaD sd (2 * k))) (nI (f + k))) (fun k v => ClJ v h S (scaS S sd ar f k) P c ∧ FrC w v h) (fun z => ∃ w2, z = (nI (cB (herB (scaS S sd ar f m)) 24), w2) ∧ ClI w2 h (scaS S sd ar f m) P c ∧ FrC w w2 h) m (by
    rintro t k v hk ⟨g0, q0⟩
    left
    have a1 : m_X6_nextRandom (lN (scaD sd (2 * k))) = lN (scaD sd (2 * k + 1)) := m_nxt (scaD_lt hs _)
    have a2 : m_X6_nextRandom (lN (scaD sd (2 * k + 1))) = lN (scaD sd (2 * k + 2)) := m_nxt (scaD_lt hs _)
    obtain ⟨w1, e1, g1, q1⟩ := m_put6 (n := n) (x := nI (scaD sd (2 * k + 1) / 65536 % ar)) (y := nI (scaD sd (2 * k + 2) / 65536 % ar)) g0 (show f + k < 24 by omega)
    refine ⟨w1, ?_, g1, fun q hq => (q1 q hq).trans (q0 q hq)⟩
    show m_X6_scatter_p30 n (t + 1) v h (nI f) (nI m) (nI ar) (lN (scaD sd (2 * k))) (nI (f + k)) = _
    rw [m_X6_scatter_p30, nI_add, if_neg (nI_ge (show f + k < f + m by omega) (by omega)), a1, a2, m_placeIn (scaD_lt hs _) h1 h2, Option.bind_some, g0.n0, Option.bind_some, m_placeIn (scaD_lt hs _) h1 h2, Option.bind_some, g0.ck3, Option.bind_some, e1, Option.bind_some, nI_1]
    rfl) (by
    rintro t v ⟨g0, q0⟩
    have hw' := hw.sca (D := sd) (f := f) h1 h2 m hm
    obtain ⟨w1, e1, g1, q1⟩ := m_settle6 hn g0 hw hw'
    refine ⟨_, ?_, w1, rfl, g1, fun q hq => (q1 q hq).trans (q0 q hq)⟩
    show m_X6_scatter_p30 n (t + 1) v h (nI f) (nI m) (nI ar) (lN (scaD sd (2 * m))) (nI (f + m)) = _
    rw [m_X6_scatter_p30, nI_add, if_pos (Int32.le_refl _), m_X6_scatter_p83, g0.ck, Option.bind_some, e1, Option.bind_some, g1.n0, Option.bind_some, g1.ck3, Option.bind_some, m_count (by omega) g1.1, Option.bind_some]) m 0 n w (by omega) (by omega) ⟨g, fun _ _ => rfl⟩
  exact ⟨w2, e, g2, q2⟩
theorem k_scatter7 {b f m ar sd : Nat} {I : Nat → Int32} {J : Nat → Int64} {A : Rw} (hn : 80 ≤ n) (g : MoC w b I J A) (hr : Row A S) (hw : WF S) (hJ : J 11 = lN sd) (hf : f < 24) (hm : f + m ≤ 24) (h1 : 1 ≤ ar) (h2 : ar ≤ 64) (hs : sd < 2 ^ 31) : ∃ w' J' A', m_X7_scatter_p91 n n w b (nI f) (nI m) (nI ar) (nI f) = some (nI (cB (herB (scaS S sd ar f m)) 24), w') ∧ MoC w' b I J' A' ∧ Row A' (scaS S sd ar f m) ∧ (∀ j k, j ≠ 0 → A' j k = A j k) ∧ Fr w w' b := by
  obtain ⟨z, e, w2, J2, A2, rfl, g2⟩ := lp (σ := Wd) (R := Int32 × Wd) (fun t k v => m_X7_scatter_p91 n t v b (nI f) (nI m) (nI ar) (nI (f + k))) (fun k v => ∃ J' A', MoC v b I J' A' ∧ J' 11 = lN (scaD sd (2 * k)) ∧ Row A' (scaS S sd ar f k) ∧ (∀ j x, j ≠ 0 → A' j x = A j x) ∧ Fr w v b) (fun z => ∃ w2 J' A', z = (nI (cB (herB (scaS S sd ar f m)) 24), w2) ∧ MoC w2 b I J' A' ∧ Row A' (scaS S sd ar f m) ∧ (∀ j k, j ≠ 0 → A' j k = A j k) ∧ Fr w w2 b) m (by
    rintro t k v hk ⟨J0, A0, g0, j0, r0, a0, q0⟩
    left
    obtain ⟨w1, e1, g1, q1⟩ := k_draws (n := n) g0 j0 (scaD_lt hs _) h1 h2
    obtain ⟨w2, e2, g2, q2⟩ := k_draws (n := n) g1 setJ_self (scaD_lt hs (2 * k + 1)) h1 h2
    obtain ⟨w3, A3, e3, g3, r3, a3, q3⟩ := k_puts (n := n) (x := nI (scaD sd (2 * k + 1) / 65536 % ar)) (y := nI (scaD sd (2 * k + 2) / 65536 % ar)) g2 r0 (hw.sca h1 h2 k (by omega)) (show f + k < 24 by omega)
    refine ⟨w3, ?_, _, A3, g3, setJ_self, r3, fun j x hj => (a3 j x hj).trans (a0 j x hj), fun q hq => (q3 q hq).trans ((q2 q hq).trans ((q1 q hq).trans (q0 q hq)))⟩
    show m_X7_scatter_p91 n (t + 1) v b (nI f) (nI m) (nI ar) (nI (f + k)) = _
    rw [m_X7_scatter_p91, nI_add, if_neg (nI_ge (show f + k < f + m by omega) (by omega)), g0.c, Option.bind_some, e1, Option.bind_some, g1.c, Option.bind_some, e2, Option.bind_some, g2.c, Option.bind_some]
    erw [e3]
    rw [Option.bind_some, nI_1]
    rfl) (by
    rintro t v ⟨J0, A0, g0, j0, r0, a0, q0⟩
    refine ⟨_, ?_, v, J0, A0, rfl, g0, r0, a0, q0⟩
    show m_X7_scatter_p91 n (t + 1) v b (nI f) (nI m) (nI ar) (nI (f + m)) = _
    rw [m_X7_scatter_p91, nI_add, if_pos (Int32.le_refl _), m_X7_scatter_p125, g0.c, Option.bind_some, k_many (by omega) g0 r0 (hw.sca h1 h2 m hm), Option.bind_some]) m 0 n w (by omega) (by omega) ⟨J, A, g, hJ, hr, fun _ _ _ => rfl, fun _ _ => rfl⟩
  exact ⟨w2, J2, A2, e, g2⟩
theorem ins1_c (a : Int32) {m : Nat} (hm : m < 2 ^ 31) : m_X6_inside a 1 (nI m) = 0 ∨ m_X6_inside a 1 (nI m) = 1 ∧ ∃ i, 1 ≤ i ∧ i ≤ m ∧ a = nI i := by
  unfold m_X6_inside
  by_cases h1 : a < 1
  · exact Or.inl (if_pos h1)
  · rw [if_neg h1]
    by_cases h2 : nI m < a
    · exact Or.inl (if_pos h2)
    · rw [if_neg h2]
      have h0 : ¬ a < 0 := fun q => h1 (Int32.lt_trans q (by decide))
      obtain ⟨j, hj, e⟩ := nI_of2 (nI_toInt hm) h0 (Int32.not_lt.mp h2)
      refine Or.inr ⟨rfl, j, Nat.pos_of_ne_zero fun q => h1 ?_, hj, e⟩
      rw [e, q]
      decide
theorem B_scatter (hn : 600 ≤ n) (H : InvK h w) : ∃ w', mc_5 K n w h (h + 87) (h + 97) xs i = some w' ∧ InvK h w' := by
  obtain ⟨S, P, c, L, B, r, H⟩ := H
  generalize e1 : xs (Int32.toNatClampNeg (i + 1)) = a1
  generalize e2 : xs (Int32.toNatClampNeg (i + 2)) = a2
  generalize e3 : xs (Int32.toNatClampNeg (i + 3)) = a3
  generalize e4 : xs (Int32.toNatClampNeg (i + 4)) = a4
  show ∃ w', mcF (fun w1 => m_X7_scatter n w1 (h + 87) (xs (Int32.toNatClampNeg (i + 1))) (xs (Int32.toNatClampNeg (i + 2))) (xs (Int32.toNatClampNeg (i + 3))) (xs (Int32.toNatClampNeg (i + 4)))) (m_L_scatter n w h (xs (Int32.toNatClampNeg (i + 1))) (xs (Int32.toNatClampNeg (i + 2))) (xs (Int32.toNatClampNeg (i + 3))) (xs (Int32.toNatClampNeg (i + 4))) (h + 97)) n (h + 87) (h + 97) = some w' ∧ _
  rw [e1, e2, e3, e4]
  have H0 := H
  obtain ⟨hw, g, sc, M, o⟩ := H
  rcases id_c a1 with h1 | ⟨h1, f, hf, rfl⟩
  · obtain ⟨w3, f3, m3, q3⟩ := k_no (n := n) (k := 1) pos1.1 M
    refine case_no (v := 0) H0 ne1.1 ?_ ⟨w3, ?_, m3, q3⟩
    · rw [m_L_scatter, g.ck, Option.bind_some, q_X6_scatter, m_X6_refusalOfScatter, if_pos h1, Option.bind_some, if_neg ne1.1, if_pos rfl]
    · rw [m_X7_scatter, if_pos (show m_X7_isId a1 = 0 from h1), m_X7_scatter_p45, if_pos (show m_X7_isId a1 = 0 from h1), M.ck, Option.bind_some, f3, Option.bind_some, if_neg ne1.1]
  · have h1' : ¬ m_X6_isId (nI f) = 0 := by rw [h1]; decide
    have es : (24 : Int32) - nI f = nI (24 - f) := pk_sub (a := 24) (by omega)
    have two : m_X6_refusalOfScatter (nI f) a2 a3 a4 = 2 → m_X7_scatter n w (h + 87) (nI f) a2 a3 a4 = m_X7_scatter_p45 n w 0 (h + 87) (nI f) a2 a3 a4 → ∃ w', mcF (fun w1 => m_X7_scatter n w1 (h + 87) (nI f) a2 a3 a4) (m_L_scatter n w h (nI f) a2 a3 a4 (h + 97)) n (h + 87) (h + 97) = some w' ∧ InvK h w' := fun d1 d2 => by
      obtain ⟨w3, f3, m3, q3⟩ := k_no (n := n) (k := 2) pos1.2.1 M
      refine case_no (v := 0) H0 ne1.2.1 ?_ ⟨w3, ?_, m3, q3⟩
      · rw [m_L_scatter, g.ck, Option.bind_some, q_X6_scatter, d1, Option.bind_some, if_neg ne1.2.1, if_neg ne1.2.2.2.1, if_pos rfl]
      · rw [d2, m_X7_scatter_p45, if_neg (show ¬ m_X7_isId (nI f) = 0 from h1'), if_pos rfl, M.ck, Option.bind_some, f3, Option.bind_some, if_neg ne1.1]
    rcases ins1_c a2 (m := 24 - f) (by omega) with h2 | ⟨h2, m, m1, m2, rfl⟩
    · exact two (by rw [m_X6_refusalOfScatter, if_neg h1', es, if_pos h2]) (by rw [m_X7_scatter, if_neg (show ¬ m_X7_isId (nI f) = 0 from h1'), es, if_pos (show m_X7_in a2 1 (nI (24 - f)) = 0 from h2)])
    have h2' : ¬ m_X6_inside (nI m) 1 (nI (24 - f)) = 0 := by rw [h2]; decide
    rcases ins1_c a3 (m := 64) (by decide) with h3 | ⟨h3, ar, r1, r2, rfl⟩
    · exact two (by rw [m_X6_refusalOfScatter, if_neg h1', es, if_neg h2', if_pos (show m_X6_inside a3 1 64 = 0 from h3)]) (by rw [m_X7_scatter, if_neg (show ¬ m_X7_isId (nI f) = 0 from h1'), es, if_neg (show ¬ m_X7_in (nI m) 1 (nI (24 - f)) = 0 from h2'), if_pos (show m_X7_in a3 1 64 = 0 from h3)])
    have h3' : ¬ m_X6_inside (nI ar) 1 64 = 0 := fun q => absurd (h3.symm.trans q) (by decide)
    rcases ins_c a4 (m := 999999) (by decide) with h4 | ⟨h4, sd, s1, rfl⟩
    · exact two (by rw [m_X6_refusalOfScatter, if_neg h1', es, if_neg h2', if_neg h3', if_pos (show m_X6_inside a4 0 999999 = 0 from h4)]) (by rw [m_X7_scatter, if_neg (show ¬ m_X7_isId (nI f) = 0 from h1'), es, if_neg (show ¬ m_X7_in (nI m) 1 (nI (24 - f)) = 0 from h2'), if_neg (show ¬ m_X7_in (nI ar) 1 64 = 0 from h3'), if_pos (show m_X7_in a4 0 999999 = 0 from h4)])
    have h4' : ¬ m_X6_inside (nI sd) 0 999999 = 0 := fun q => absurd (h4.symm.trans q) (by decide)
    have hk : m_X6_refusalOfScatter (nI f) (nI m) (nI ar) (nI sd) = 0 := by rw [m_X6_refusalOfScatter, if_neg h1', es, if_neg h2', if_neg h3', if_neg h4']
    have d2 : ∀ v, m_X7_scatter n v (h + 87) (nI f) (nI m) (nI ar) (nI sd) = m_X7_scatter_p45 n v 1 (h + 87) (nI f) (nI m) (nI ar) (nI sd) := fun v => by rw [m_X7_scatter, if_neg (show ¬ m_X7_isId (nI f) = 0 from h1'), es, if_neg (show ¬ m_X7_in (nI m) 1 (nI (24 - f)) = 0 from h2'), if_neg (show ¬ m_X7_in (nI ar) 1 64 = 0 from h3'), if_neg (show ¬ m_X7_in (nI sd) 0 999999 = 0 from h4')]
    obtain ⟨w1, f1, g1, q1⟩ := m_push6 (n := n) (by omega) g hw
    obtain ⟨w2, f2, g2, q2⟩ := m_scatter6 (n := n) (m := m) (ar := ar) (sd := sd) (by omega) g1 hw hf (by omega) r1 r2 (by omega)
    refine case_ok H0 (w1 := w2) (v := nI (cB (herB (scaS S sd ar f m)) 24)) ?_ (hw.sca r1 r2 m (by omega)) g2 (sc.frame fun z a b => (q2 z (by omega)).trans (q1 z (by omega))) (fun z hz => (q2 z (by omega)).trans (q1 z (by omega))) fun v2 m2 => ?_
    · rw [m_L_scatter, g.ck, Option.bind_some, q_X6_scatter, hk, Option.bind_some, if_pos rfl, m_X6_scatter, hk, throw0, Option.bind_some, g.n1, Option.bind_some, g.n0, Option.bind_some, g.ck4, Option.bind_some, f1, Option.bind_some, nI_l (by omega), f2, Option.bind_some]
    · obtain ⟨u1, u2, I, J, A, f1, c1, f2, c2, m3, q3⟩ := k_start (n := n) hn m2
      obtain ⟨u3, f3, m4, q4⟩ := m3.1.q11 (lN sd)
      obtain ⟨u5, J5, A5, f5, m5, r5, a5, q5⟩ := k_scatter7 (n := n) (m := m) (ar := ar) (by omega) m4 m3.2.1 hw setJ_self hf (by omega) r1 r2 (show sd < 2 ^ 31 by omega)
      refine ⟨u5, ?_, ⟨I, J5, A5, m3.to m5 r5 (fun _ _ => rfl) fun j k hj => a5 j k (by omega)⟩, fun z hz => (q5 z hz).trans ((q4 z hz).trans (q3 z hz))⟩
      rw [d2, m_X7_scatter_p45, if_neg (show ¬ m_X7_isId (nI f) = 0 from h1'), if_neg (by decide), m2.ck, Option.bind_some, f1, Option.bind_some, if_pos rfl, c1, Option.bind_some, f2, Option.bind_some, nI_l (by omega), f3, Option.bind_some, f5]
theorem B_undo (hn : 600 ≤ n) (H : InvK h w) : ∃ w', mc_23 K n w h (h + 87) (h + 97) xs i = some w' ∧ InvK h w' := by
  obtain ⟨S, P, c, L, B, r, H⟩ := H
  show ∃ w', mcF (fun w1 => m_X7_undo n w1 (h + 87)) (m_L_undo n w h (h + 97)) n (h + 87) (h + 97) = some w' ∧ _
  have H0 := H
  obtain ⟨hw, g, sc, M, o⟩ := H
  by_cases hc : c = 0
  · subst hc
    obtain ⟨w3, f3, m3, q3⟩ := k_no (n := n) (k := 1) pos1.1 M
    obtain ⟨I, J, A, m⟩ := M
    refine case_no (v := 0) H0 ne1.1 ?_ ⟨w3, ?_, m3, q3⟩
    · rw [m_L_undo, g.ck, Option.bind_some, q_X6_undo, g.n1, Option.bind_some, g.cnt, Option.bind_some, if_pos (show nI 0 ≤ 0 from Int32.le_refl _), Option.bind_some, if_neg ne1.2.2.1, if_pos rfl]
    · rw [m_X7_undo, m.1.i3, Option.bind_some, m.2.2.1.1, if_pos (show nI 0 = 0 from rfl), m.ck, Option.bind_some, f3, Option.bind_some, if_neg ne1.1]
  · have hc4 : c ≤ 4 := by
      obtain ⟨I, J, A, m⟩ := M
      exact m.2.2.1.2
    have hp : ¬ nI c ≤ 0 := nI_nle (by omega) (by omega)
    have g0 := g
    obtain ⟨s1, ⟨t, rg⟩, fo, sp, fs, ob, fc, fx⟩ := g
    obtain ⟨hwP, -⟩ := rg.2.2.2.2 (c - 1) (by omega)
    obtain ⟨w1, f1, s2, rg2, q1⟩ := m_pop (n := n) (by omega) s1 rg (by omega)
    unfold FSp at fs
    have fx1 : FoX w1 fo := fc.x.frame fun q a b => q1 q (by omega) (by omega)
    obtain ⟨w2, f2, fc2, q2⟩ := m_plant (n := n) (by omega) fx1 s2 hwP (by omega)
    have ob1 : ObC w1 h fo sp := by
      unfold ObC
      rw [q1 h (by omega) (by omega)]
      exact ob
    have ob2 : ObC w2 h fo sp := by
      unfold ObC
      rw [q2 h (by omega)]
      exact ob1
    have rg3 := rg2.frame (w' := w2) fun q a b => q2 q (by omega)
    have g2 : ClI w2 h (P (c - 1)) P (c - 1) := ⟨s2.frame fun q a b => q2 q (by omega), ⟨_, rg3⟩, fo, sp, fs, ob2, fc2, fx.frame fun q a b => (q2 q (by omega)).trans (q1 q (by omega) (by omega))⟩
    have ck3 : chk 0 w1 fo = some () := chk_at fx1.1.1
    refine case_ok H0 (w1 := w2) (v := nI (c - 1)) ?_ hwP g2 (sc.frame fun z a b => (q2 z (by omega)).trans (q1 z (by omega) (by omega))) (fun z hz => (q2 z (by omega)).trans (q1 z (by omega) (by omega))) fun v2 m2 => ?_
    · rw [m_L_undo, g0.ck, Option.bind_some, q_X6_undo, g0.n1, Option.bind_some, g0.cnt, Option.bind_some, if_neg hp, Option.bind_some, if_pos rfl, m_X6_undo, g0.n1, Option.bind_some, g0.cnt, Option.bind_some, if_neg hp, throw0, Option.bind_some, Option.bind_some, g0.n0, Option.bind_some, g0.ck4, Option.bind_some, f1, Option.bind_some, gfR_at ob1 rfl, Option.bind_some, gfR_at ob1 rfl, Option.bind_some, ck3, Option.bind_some, f2, Option.bind_some, g2.n1, Option.bind_some, g2.cnt, Option.bind_some, Option.bind_some]
    · obtain ⟨I, J, A, m⟩ := m2
      obtain ⟨u1, e1, m1, z1⟩ := k_ref0 (n := n) m
      obtain ⟨u2, e2, m2, z2⟩ := m1.1.p3 (nI (c - 1))
      obtain ⟨⟨v3, u3⟩, e3, er, ⟨A3, m3, a3, r3⟩, z3⟩ := m_undo7 (n := n) hn m2 (c := c - 1) setI_self (by omega)
      change v3 = nI (c - 1) at er
      subst er
      have i3 : gfI 6 3 u1 (h + 87) = some (nI c) := by rw [m1.1.i3, m1.2.2.1.1]
      obtain ⟨-, -, -, p1, l1, b1, t1⟩ := m1
      refine ⟨u3, ?_, ⟨_, J, A3, m3, fun i hi => ?_, ⟨setI_self, by omega⟩, fun j i hj hi => ?_, ⟨by rw [setI_ne (by decide)]; exact l1.1, l1.2⟩, fun i hi => (a3 3 i (by decide)).trans (b1 i hi), by rw [setI_ne (by decide)]; exact t1⟩, fun z hz => (z3 z hz).trans ((z2 z hz).trans (z1 z hz))⟩
      · rw [m_X7_undo, m.1.i3, Option.bind_some, m.2.2.1.1, if_neg (nI_ne0 (by omega) (by omega)), m.ck, Option.bind_some, e1, Option.bind_some, if_pos rfl, i3, Option.bind_some, show nI c - 1 = nI (c - 1) from pk_sub (a := c) (b := 1) (by omega), e2, Option.bind_some, e3]
      · rw [r3 i hi, p1 (c - 1) i (by omega) hi]
      · rw [a3 1 _ (by decide)]
        exact p1 j i (by omega) hi
end SC
