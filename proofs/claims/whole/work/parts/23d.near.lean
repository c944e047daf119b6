/-! within, nearest -/
def inB (S : Nat → Int32) (x0 y0 x1 y1 : Int32) (i : Nat) : Bool := herB S i && (decide (m_X6_inside (S (5 * i + 1)) x0 x1 ≠ 0) && decide (m_X6_inside (S (5 * i + 2)) y0 y1 ≠ 0))
theorem cB_lt {p q : Nat → Bool} : ∀ {k : Nat}, (∀ i, i < k → p i = true → q i = true) → cB p k ≤ cB q k ∧ ((∃ j, j < k ∧ q j = true ∧ p j = false) → cB p k < cB q k)
  | 0, _ => ⟨Nat.le_refl _, fun ⟨j, hj, _⟩ => absurd hj (Nat.not_lt_zero _)⟩
  | k + 1, h => by
    obtain ⟨h1, h2⟩ := cB_lt (k := k) fun i hi => h i (by omega)
    rw [cB_s, cB_s]
    have h3 := h k (Nat.lt_succ_self k)
    refine ⟨?_, fun ⟨j, hj, j1, j2⟩ => ?_⟩
    · by_cases c : p k = true
      · rw [if_pos c, if_pos (h3 c)]
        omega
      · rw [if_neg c]
        split <;> omega
    · by_cases e : j = k
      · subst e
        rw [if_pos j1, j2, if_neg (show ¬ false = true by decide)]
        omega
      · have := h2 ⟨j, by omega, j1, j2⟩
        by_cases c : p k = true
        · rw [if_pos c, if_pos (h3 c)]
          omega
        · rw [if_neg c]
          split <;> omega
theorem cB_one {p q : Nat → Bool} {j : Nat} : ∀ {k : Nat}, j < k → p j = false → q j = true → (∀ i, i < k → i ≠ j → p i = q i) → cB q k = cB p k + 1
  | k + 1, hj, h1, h2, h3 => by
    rw [cB_s, cB_s]
    by_cases e : j = k
    · subst e
      rw [h1, h2, cB_cong (p := p) (q := q) fun i hi => h3 i (by omega) (by omega), if_pos (show true = true from rfl), if_neg (show ¬ false = true by decide)]
    · rw [cB_one (k := k) (by omega) h1 h2 fun i hi => h3 i (by omega), h3 k (Nat.lt_succ_self k) (by omega)]
      omega
def ltB (S : Nat → Int32) (x y m i : Nat) : Bool := herB S i && decide (pN S x y i < m)
theorem pN_inj {S : Nat → Int32} {x y i j : Nat} (hi : i < 24) (hj : j < 24) (h : pN S x y i = pN S x y j) : i = j := by
  unfold pN at h
  omega
def snN (S : Nat → Int32) (x y : Nat) : Nat → Nat
  | 0 => mA S x y 0 24
  | k + 1 => mA S x y (snN S x y k) 24
theorem sn_c {S : Nat → Int32} {x y : Nat} : ∀ r, r < cB (herB S) 24 → ∃ i, i < 24 ∧ herB S i = true ∧ snN S x y r = pN S x y i + 1 ∧ cB (ltB S x y (pN S x y i)) 24 = r ∧ cB (ltB S x y (pN S x y i + 1)) 24 = r + 1 := by
  have step : ∀ (lo r : Nat), cB (ltB S x y lo) 24 = r → r < cB (herB S) 24 → ∃ i, i < 24 ∧ herB S i = true ∧ mA S x y lo 24 = pN S x y i + 1 ∧ cB (ltB S x y (pN S x y i)) 24 = r ∧ cB (ltB S x y (pN S x y i + 1)) 24 = r + 1 := fun lo r h1 h2 => by
    rcases mA_c S x y lo 24 with ⟨a1, a2⟩ | ⟨i, a1, a2, a3, a4, a5⟩
    · have : cB (ltB S x y lo) 24 = cB (herB S) 24 := cB_cong fun j hj => by
        unfold ltB
        cases hh : herB S j with
        | false => rfl
        | true => rw [decide_eq_true (a2 j hj hh)]; rfl
      omega
    · have e1 : cB (ltB S x y (pN S x y i)) 24 = r := by
        rw [← h1]
        refine cB_cong fun j hj => ?_
        unfold ltB
        cases hh : herB S j with
        | false => rfl
        | true =>
          by_cases g : lo ≤ pN S x y j
          · have := a5 j hj hh g
            rw [decide_eq_false (by omega), decide_eq_false (by omega)]
          · rw [decide_eq_true (by omega), decide_eq_true (by omega)]
      refine ⟨i, a1, a2, a4, e1, ?_⟩
      rw [← e1]
      refine cB_one a1 ?_ ?_ fun j hj hne => ?_
      · unfold ltB
        rw [decide_eq_false (Nat.lt_irrefl _), Bool.and_false]
      · unfold ltB
        rw [a2, decide_eq_true (Nat.lt_succ_self _)]
        rfl
      · have : pN S x y j ≠ pN S x y i := fun q => hne (pN_inj hj a1 q)
        unfold ltB
        congr 1
        by_cases g : pN S x y j < pN S x y i
        · rw [decide_eq_true g, decide_eq_true (by omega)]
        · rw [decide_eq_false g, decide_eq_false (by omega)]
  intro r
  induction r with
  | zero =>
    intro h
    refine step 0 0 ?_ h
    have : cB (ltB S x y 0) 24 = cB (fun _ => false) 24 := cB_cong fun j _ => by
      unfold ltB
      rw [decide_eq_false (Nat.not_lt_zero _), Bool.and_false]
    rw [this]
    rfl
  | succ r ih =>
    intro h
    obtain ⟨i, b1, b2, b3, b4, b5⟩ := ih (by omega)
    show ∃ i, i < 24 ∧ herB S i = true ∧ mA S x y (snN S x y r) 24 = pN S x y i + 1 ∧ _
    rw [b3]
    exact step _ _ b5 h
/-- the last id below k that has the rank, and one more -/
def itN (S : Nat → Int32) (x y r : Nat) : Nat → Nat
  | 0 => 0
  | k + 1 => if herB S k = true ∧ cB (ltB S x y (pN S x y k)) 24 = r then k + 1 else itN S x y r k
theorem it_le (S : Nat → Int32) (x y r : Nat) : ∀ k, itN S x y r k ≤ k
  | 0 => Nat.le_refl 0
  | k + 1 => by
    have := it_le S x y r k
    unfold itN
    split <;> omega
theorem ahd_lt {S : Nat → Int32} {x y i j : Nat} (hi : i < 24) (h1 : herB S i = true) (h : pN S x y i < pN S x y j) : cB (ltB S x y (pN S x y i)) 24 < cB (ltB S x y (pN S x y j)) 24 := by
  refine (cB_lt (p := ltB S x y (pN S x y i)) (q := ltB S x y (pN S x y j)) fun k hk hp => ?_).2 ⟨i, hi, ?_, ?_⟩
  · unfold ltB at hp ⊢
    rw [Bool.and_eq_true, decide_eq_true_eq] at hp ⊢
    exact ⟨hp.1, by omega⟩
  · unfold ltB
    rw [h1, decide_eq_true h]
    rfl
  · unfold ltB
    rw [decide_eq_false (Nat.lt_irrefl _), Bool.and_false]
theorem it_no {S : Nat → Int32} {x y r : Nat} (h : cB (herB S) 24 ≤ r) : ∀ k, k ≤ 24 → itN S x y r k = 0
  | 0, _ => rfl
  | k + 1, hk => by
    unfold itN
    rw [if_neg (fun q => by
      have := (cB_lt (p := ltB S x y (pN S x y k)) (q := herB S) (k := 24) fun i hi hp => by
        unfold ltB at hp
        rw [Bool.and_eq_true] at hp
        exact hp.1).2 ⟨k, by omega, q.1, by
          unfold ltB
          rw [decide_eq_false (Nat.lt_irrefl _), Bool.and_false]⟩
      omega)]
    exact it_no h k (by omega)
theorem it_yes {S : Nat → Int32} {x y r i : Nat} (hi : i < 24) (h1 : herB S i = true) (h2 : cB (ltB S x y (pN S x y i)) 24 = r) : ∀ k, k ≤ 24 → itN S x y r k = if i < k then i + 1 else 0
  | 0, _ => by rw [if_neg (Nat.not_lt_zero _)]; rfl
  | k + 1, hk => by
    unfold itN
    by_cases e : k = i
    · subst e
      rw [if_pos ⟨h1, h2⟩, if_pos (Nat.lt_succ_self k)]
    · rw [if_neg (fun q => by
        rcases Nat.lt_trichotomy (pN S x y k) (pN S x y i) with g | g | g
        · have := ahd_lt (show k < 24 by omega) q.1 g
          omega
        · exact e (pN_inj (by omega) hi g)
        · have := ahd_lt hi h1 g
          omega), it_yes hi h1 h2 k (by omega)]
      by_cases g : i < k
      · rw [if_pos g, if_pos (by omega)]
      · rw [if_neg g, if_neg (by omega)]
/-- the answer: the id, and one more -/
theorem near_eq {S : Nat → Int32} {x y r : Nat} : (cB (herB S) 24 ≤ r → itN S x y r 24 = 0) ∧ (r < cB (herB S) 24 → 0 < snN S x y r ∧ itN S x y r 24 = (snN S x y r - 1) % 32 + 1) := by
  refine ⟨fun h => it_no h 24 (Nat.le_refl _), fun h => ?_⟩
  obtain ⟨i, b1, b2, b3, b4, b5⟩ := sn_c r h (x := x) (y := y)
  rw [it_yes b1 b2 b4 24 (Nat.le_refl _), if_pos b1, b3]
  refine ⟨by omega, ?_⟩
  unfold pN
  omega
theorem sn_lt {S : Nat → Int32} (hw : WF S) {x y : Nat} (hx : x < 64) (hy : y < 64) : ∀ r, snN S x y r < 400000
  | 0 => mA_lt hw hx hy (Nat.le_refl 24)
  | r + 1 => mA_lt hw hx hy (Nat.le_refl 24)
section NE
variable {n h c L : Nat} {w : Wd} {S : Nat → Int32} {P : Nat → Nat → Int32} {B : Nat → Int32} {r : Int32} {K : Nat → Nat} {xs : Nat → Int32} {i : Int32}
theorem m_near6 {x y k : Nat} (hn : 60 ≤ n) (g : ClI w h S P c) (hw : WF S) (hx : x < 64) (hy : y < 64) (hk : k < cB (herB S) 24) : m_X6_nearest_p48 n n w h (nI x) (nI y) (nI k) (laI (snN S x y 0)) 0 = some (laI (itN S x y k 24)) := by
  have h24 := cB_le (herB S) 24
  obtain ⟨v, e, rfl⟩ := lp (σ := Unit) (R := Int32) (fun t j _ => m_X6_nearest_p48 n t w h (nI x) (nI y) (nI k) (laI (snN S x y j)) (nI j)) (fun _ _ => True) (fun v => v = laI (itN S x y k 24)) k (by
    rintro t j ⟨⟩ hj -
    left
    refine ⟨(), ?_, trivial⟩
    have := sn_lt hw hx hy j
    rw [m_X6_nearest_p48, if_neg (nI_ge hj (by omega)), g.n0, Option.bind_some, g.ck3, Option.bind_some, m_pairAfter hn g.1 hw hx hy (by omega), Option.bind_some, nI_1]
    rfl) (by
    rintro t ⟨⟩ -
    refine ⟨_, ?_, rfl⟩
    have := sn_lt hw hx hy k
    obtain ⟨b1, b2⟩ := (near_eq (S := S) (x := x) (y := y) (r := k)).2 hk
    have e1 : laI (snN S x y k) = nI (snN S x y k - 1) := if_neg (by omega)
    have e2 : laI (itN S x y k 24) = nI (itN S x y k 24 - 1) := if_neg (by omega)
    rw [m_X6_nearest_p48, if_pos (Int32.le_refl _), e1, e2, show (32 : Int32) = nI 32 from rfl, jrm_nI (by omega) (by decide) (by decide), b2, Nat.add_sub_cancel]) k 0 n () (by omega) (by omega) trivial
  exact e
theorem k_near7 {b x y k : Nat} {I : Nat → Int32} {J : Nat → Int64} {A : Rw} (hn : 60 ≤ n) (m : MoC w b I J A) (hr : Row A S) (hw : WF S) (hx : x < 64) (hy : y < 64) (hk : k < 2 ^ 31) : m_X7_nearest_p32 n n w b (nI x) (nI y) (nI k) (-1) 0 = some (laI (itN S x y k 24), w) := by
  obtain ⟨v, e, rfl⟩ := lp (σ := Unit) (R := Int32 × Wd) (fun t j _ => m_X7_nearest_p32 n t w b (nI x) (nI y) (nI k) (laI (itN S x y k j)) (nI j)) (fun _ _ => True) (fun v => v = (laI (itN S x y k 24), w)) 24 (by
    rintro t j ⟨⟩ hj -
    left
    refine ⟨(), ?_, trivial⟩
    have hdj := (dN_ok hw hj hx hy).2
    have epj : pN S x y j = dN S j x y * 32 + j := rfl
    rw [m_X7_nearest_p32, if_neg (show ¬ (24 : Int32) ≤ nI j from nI_ge hj (by decide))]
    obtain ⟨u, e, -⟩ := lpk (σ := Unit) (τ := Unit) (R := Option (Int32 × Wd)) (fun t' o _ => m_X7_nearest_p45 n (fun w b0 b1 b2 b3 b4 b5 => m_X7_nearest_p32 n t w b0 b1 b2 b3 b4 b5) t' w b (nI x) (nI y) (nI k) (laI (itN S x y k j)) (nI j) (nI (cB (ltB S x y (pN S x y j)) o)) (nI o)) (fun _ => m_X7_nearest_p32 n t w b (nI x) (nI y) (nI k) (laI (itN S x y k (j + 1))) (nI (j + 1))) (fun _ _ => True) (fun _ => True) 24 (by
      rintro t' o ⟨⟩ ho -
      left
      refine ⟨(), ?_, trivial⟩
      have hdo := (dN_ok hw ho hx hy).2
      have epo : pN S x y o = dN S o x y * 32 + o := rfl
      rw [m_X7_nearest_p45, if_neg (show ¬ (24 : Int32) ≤ nI o from nI_ge ho (by decide)), m.c, Option.bind_some, k_far m hr hw hj hx hy, Option.bind_some, Option.bind_some, k_far m hr hw ho hx hy, Option.bind_some, Option.bind_some, m_there m hr hw ho, Option.bind_some, cB_s]
      by_cases z : S (5 * o) = 0
      · rw [if_pos z, show ltB S x y (pN S x y j) o = false by unfold ltB; rw [her0 z]; rfl, if_neg (show ¬ false = true by decide), Int32.add_zero, nI_1]
        rfl
      · rw [if_neg z]
        have el : ltB S x y (pN S x y j) o = decide (pN S x y o < pN S x y j) := by
          unfold ltB
          rw [her1 z, Bool.true_and]
        rcases Nat.lt_trichotomy (dN S o x y) (dN S j x y) with g | g | g
        · rw [el, decide_eq_true (by omega), pk_sub (by omega), if_pos (show (0 : Int32) < nI (dN S j x y - dN S o x y) from nI_lt (a := 0) (by omega) (by omega)), if_pos (show true = true from rfl), nI_1, nI_1]
        · rw [el, g, pk_sub (Nat.le_refl _), Nat.sub_self, if_neg (show ¬ (0 : Int32) < nI 0 by decide), if_pos (show nI 0 = 0 from rfl)]
          by_cases g2 : j ≤ o
          · rw [if_pos (nI_le g2 (by omega)), decide_eq_false (by omega), if_neg (show ¬ false = true by decide), Int32.add_zero, nI_1]
            rfl
          · rw [if_neg (nI_ge (by omega) (by omega)), decide_eq_true (by omega), if_pos (show true = true from rfl), nI_1, nI_1]
        · have hs := pk_sneg (a := dN S j x y) (b := dN S o x y) (by omega) g
          rw [el, decide_eq_false (by omega), if_neg (show ¬ (0 : Int32) < nI (dN S j x y) - nI (dN S o x y) from fun q => Int32.lt_irrefl (Int32.lt_trans q hs)), if_neg (show ¬ nI (dN S j x y) - nI (dN S o x y) = 0 from fun q => by rw [q] at hs; exact Int32.lt_irrefl hs), if_neg (show ¬ false = true by decide), Int32.add_zero, nI_1]
          rfl) (by
      rintro t' ⟨⟩ -
      refine ⟨(), ?_, trivial⟩
      have hle := cB_le (ltB S x y (pN S x y j)) 24
      rw [m_X7_nearest_p45, if_pos (by decide), m_X7_nearest_p113, m.c, Option.bind_some, m_there m hr hw hj, Option.bind_some]
      show _ = m_X7_nearest_p32 n t w b (nI x) (nI y) (nI k) (laI (if herB S j = true ∧ cB (ltB S x y (pN S x y j)) 24 = k then j + 1 else itN S x y k j)) (nI (j + 1))
      by_cases z : S (5 * j) = 0
      · rw [if_pos z, if_neg (fun q => by rw [her0 z] at q; exact absurd q.1 (by decide)), nI_1]
      · rw [if_neg z]
        by_cases g : cB (ltB S x y (pN S x y j)) 24 = k
        · rw [if_pos (by rw [g]), if_pos ⟨her1 z, g⟩, show laI (j + 1) = nI j by unfold laI; rw [if_neg (by omega), Nat.add_sub_cancel], nI_1]
        · rw [if_neg (fun q => g ((nI_eq (by omega) hk).mp q)), if_neg (fun q => g q.2), nI_1]) 24 0 n () rfl (by omega) trivial
    exact e) (by
    rintro t ⟨⟩ -
    exact ⟨_, by rw [m_X7_nearest_p32, if_pos (by decide)], rfl⟩) 24 0 n () rfl (by omega) trivial
  exact e
theorem B_near (hn : 600 ≤ n) (H : InvK h w) : ∃ w', mc_16 K n w h (h + 87) (h + 97) xs i = some w' ∧ InvK h w' := by
  obtain ⟨S, P, c, L, B, r, H⟩ := H
  generalize ea : xs (Int32.toNatClampNeg (i + 1)) = a
  generalize ex : xs (Int32.toNatClampNeg (i + 2)) = x
  generalize ey : xs (Int32.toNatClampNeg (i + 3)) = y
  show ∃ w', mcF (fun w1 => m_X7_nearest n w1 (h + 87) (xs (Int32.toNatClampNeg (i + 1))) (xs (Int32.toNatClampNeg (i + 2))) (xs (Int32.toNatClampNeg (i + 3)))) (m_L_nearest n w h (xs (Int32.toNatClampNeg (i + 1))) (xs (Int32.toNatClampNeg (i + 2))) (xs (Int32.toNatClampNeg (i + 3))) (h + 97)) n (h + 87) (h + 97) = some w' ∧ _
  rw [ea, ex, ey]
  have H0 := H
  obtain ⟨hw, g, sc, M, o⟩ := H
  have h24 := cB_le (herB S) 24
  rcases pl_c a x with h1 | ⟨h1, p, q, hp, hq, rfl, rfl⟩
  · obtain ⟨w3, f3, m3, q3⟩ := k_no (n := n) (k := 1) pos1.1 M
    refine case_no (v := 0) H0 ne1.1 ?_ ⟨w3, ?_, m3, q3⟩
    · rw [m_L_nearest, g.ck, Option.bind_some, q_X6_nearest, if_pos h1, Option.bind_some, if_neg ne1.2.1, if_pos rfl]
    · rw [m_X7_nearest, if_pos (show m_X7_isPlace a x = 0 from h1), M.ck, Option.bind_some, f3, Option.bind_some, if_neg ne1.1]
  · have h1' : ¬ m_X6_isPosition (nI p) (nI q) = 0 := by rw [h1]; decide
    by_cases h2 : y < 0
    · obtain ⟨w3, f3, m3, q3⟩ := k_no (n := n) (k := 1) pos1.1 M
      refine case_no (v := 0) H0 ne1.1 ?_ ⟨w3, ?_, m3, q3⟩
      · rw [m_L_nearest, g.ck, Option.bind_some, q_X6_nearest, if_neg h1', if_pos h2, Option.bind_some, if_neg ne1.2.1, if_pos rfl]
      · rw [m_X7_nearest, if_neg (show ¬ m_X7_isPlace (nI p) (nI q) = 0 from h1'), if_pos h2, M.ck, Option.bind_some, f3, Option.bind_some, if_neg ne1.1]
    · obtain ⟨k, hk, rfl⟩ := nI_of h2
      refine case_ok H0 (w1 := w) (v := laI (itN S p q k 24)) ?_ hw g sc (fun _ _ => rfl) fun v2 m2 => ?_
      · rw [m_L_nearest, g.ck, Option.bind_some, q_X6_nearest, if_neg h1', if_neg h2, Option.bind_some, if_pos rfl, m_X6_nearest, if_neg h1', if_neg h2, throw0, Option.bind_some, g.n0, Option.bind_some, g.ck3, Option.bind_some, m_count (by omega) g.1, Option.bind_some]
        by_cases z : k < cB (herB S) 24
        · rw [if_pos (nI_lt z (by omega)), Option.bind_some, g.ck3, Option.bind_some, show m_X4_pairAfter n w (h + 1) (-1) (nI p) (nI q) = some (laI (snN S p q 0)) from m_pairAfter (lo := 0) (by omega) g.1 hw hp hq (by decide), Option.bind_some, m_near6 (by omega) g hw hp hq z, Option.bind_some]
        · rw [if_neg (nI_nlt (by omega) (by omega)), near_eq.1 (by omega), Option.bind_some]
          rfl
      · obtain ⟨I, J, A, m⟩ := m2
        obtain ⟨u1, f1, m1, q1⟩ := k_ref0 (n := n) m
        refine ⟨u1, ?_, ⟨_, _, _, m1⟩, q1⟩
        rw [m_X7_nearest, if_neg (show ¬ m_X7_isPlace (nI p) (nI q) = 0 from h1'), if_neg h2, m.ck, Option.bind_some, f1, Option.bind_some, if_pos rfl]
        exact k_near7 (by omega) m1.1 m1.2.1 hw hp hq hk
theorem B_within (hn : 600 ≤ n) (H : InvK h w) : ∃ w', mc_17 K n w h (h + 87) (h + 97) xs i = some w' ∧ InvK h w' := by
  obtain ⟨S, P, c, L, B, r, H⟩ := H
  generalize e1 : xs (Int32.toNatClampNeg (i + 1)) = a1
  generalize e2 : xs (Int32.toNatClampNeg (i + 2)) = a2
  generalize e3 : xs (Int32.toNatClampNeg (i + 3)) = a3
  generalize e4 : xs (Int32.toNatClampNeg (i + 4)) = a4
  show ∃ w', mcF (fun w1 => m_X7_within n w1 (h + 87) (xs (Int32.toNatClampNeg (i + 1))) (xs (Int32.toNatClampNeg (i + 2))) (xs (Int32.toNatClampNeg (i + 3))) (xs (Int32.toNatClampNeg (i + 4)))) (m_L_within n w h (xs (Int32.toNatClampNeg (i + 1))) (xs (Int32.toNatClampNeg (i + 2))) (xs (Int32.toNatClampNeg (i + 3))) (xs (Int32.toNatClampNeg (i + 4))) (h + 97)) n (h + 87) (h + 97) = some w' ∧ _
  rw [e1, e2, e3, e4]
  have H0 := H
  obtain ⟨hw, g, sc, M, o⟩ := H
  by_cases h1 : m_X6_isPosition a1 a2 = 0
  · obtain ⟨w3, f3, m3, q3⟩ := k_no (n := n) (k := 1) pos1.1 M
    refine case_no (v := 0) H0 ne1.1 ?_ ⟨w3, ?_, m3, q3⟩
    · rw [m_L_within, g.ck, Option.bind_some, q_X6_within, if_pos h1, Option.bind_some, if_neg ne1.2.1, if_pos rfl]
    · rw [m_X7_within, if_pos (show m_X7_isPlace a1 a2 = 0 from h1), M.ck, Option.bind_some, f3, Option.bind_some, if_neg ne1.1]
  · by_cases h2 : m_X6_isPosition a3 a4 = 0
    · obtain ⟨w3, f3, m3, q3⟩ := k_no (n := n) (k := 1) pos1.1 M
      refine case_no (v := 0) H0 ne1.1 ?_ ⟨w3, ?_, m3, q3⟩
      · rw [m_L_within, g.ck, Option.bind_some, q_X6_within, if_neg h1, if_pos h2, Option.bind_some, if_neg ne1.2.1, if_pos rfl]
      · rw [m_X7_within, if_neg (show ¬ m_X7_isPlace a1 a2 = 0 from h1), if_pos (show m_X7_isPlace a3 a4 = 0 from h2), M.ck, Option.bind_some, f3, Option.bind_some, if_neg ne1.1]
    · have cls : m_X6_within_p31 n n w h a1 a2 a3 a4 0 0 = some (nI (cB (inB S a1 a2 a3 a4) 24)) := by
        obtain ⟨F, t0, f0, fR⟩ := g.1
        obtain ⟨v, e, rfl⟩ := lp (σ := Unit) (R := Int32) (fun t k _ => m_X6_within_p31 n t w h a1 a2 a3 a4 (nI (cB (inB S a1 a2 a3 a4) k)) (nI k)) (fun _ _ => True) (fun v => v = nI (cB (inB S a1 a2 a3 a4) 24)) 24 (by
          rintro t k ⟨⟩ hk -
          left
          refine ⟨(), ?_, trivial⟩
          rw [m_X6_within_p31, if_neg (show ¬ (24 : Int32) ≤ nI k from nI_ge hk (by decide)), g.n0, Option.bind_some, f0.q0, Option.bind_some, f0.r0 hk, Option.bind_some, fR.1 0 k (by decide) hk, cB_s]
          unfold inB
          by_cases z : S (5 * k) = 0
          · rw [if_pos (show S (5 * k + 0) = 0 from z), her0 z, Bool.false_and, if_neg (show ¬ false = true by decide), nI_1]
            rfl
          · rw [if_neg (show ¬ S (5 * k + 0) = 0 from z), Option.bind_some, f0.q1, Option.bind_some, f0.r1 hk, Option.bind_some, fR.1 1 k (by decide) hk, her1 z, Bool.true_and]
            by_cases z1 : m_X6_inside (S (5 * k + 1)) a1 a3 = 0
            · rw [if_pos z1, decide_eq_false (fun q => q z1), Bool.false_and, if_neg (show ¬ false = true by decide), nI_1]
              rfl
            · rw [if_neg z1, Option.bind_some, f0.q2, Option.bind_some, f0.r2 hk, Option.bind_some, fR.1 2 k (by decide) hk, decide_eq_true z1, Bool.true_and]
              by_cases z2 : m_X6_inside (S (5 * k + 2)) a2 a4 = 0
              · rw [if_pos z2, decide_eq_false (fun q => q z2), if_neg (show ¬ false = true by decide), nI_1]
                rfl
              · rw [if_neg z2, decide_eq_true z2, if_pos (show true = true from rfl), nI_1, nI_1]) (by
          rintro t ⟨⟩ -
          exact ⟨_, by rw [m_X6_within_p31, if_pos (by decide)], rfl⟩) 24 0 n () rfl (by omega) trivial
        exact e
      refine case_ok H0 (w1 := w) (v := nI (cB (inB S a1 a2 a3 a4) 24)) ?_ hw g sc (fun _ _ => rfl) fun v2 m2 => ?_
      · rw [m_L_within, g.ck, Option.bind_some, q_X6_within, if_neg h1, if_neg h2, Option.bind_some, if_pos rfl, m_X6_within, if_neg h1, if_neg h2, throw0, Option.bind_some, cls, Option.bind_some]
      · obtain ⟨I, J, A, m⟩ := m2
        obtain ⟨u1, f1, m1, q1⟩ := k_ref0 (n := n) m
        refine ⟨u1, ?_, ⟨_, _, _, m1⟩, q1⟩
        rw [m_X7_within, if_neg (show ¬ m_X7_isPlace a1 a2 = 0 from h1), if_neg (show ¬ m_X7_isPlace a3 a4 = 0 from h2), m.ck, Option.bind_some, f1, Option.bind_some, if_pos rfl]
        obtain ⟨v, e, rfl⟩ := lp (σ := Unit) (R := Int32 × Wd) (fun t k _ => m_X7_within_p37 n t u1 (h + 87) a1 a2 a3 a4 (nI (cB (inB S a1 a2 a3 a4) k)) (nI k)) (fun _ _ => True) (fun v => v = (nI (cB (inB S a1 a2 a3 a4) 24), u1)) 24 (by
          rintro t k ⟨⟩ hk -
          left
          refine ⟨(), ?_, trivial⟩
          have s1 : (5 : Int32) * nI k + 1 = nI (5 * k + 1) := e5k k 1
          have s2 : (5 : Int32) * nI k + 2 = nI (5 * k + 2) := e5k k 2
          rw [m_X7_within_p37, if_neg (show ¬ (24 : Int32) ≤ nI k from nI_ge hk (by decide)), m1.ck, Option.bind_some, m_there m1.1 m1.2.1 hw hk, Option.bind_some, s1, s2, cB_s]
          unfold inB
          by_cases z : S (5 * k) = 0
          · rw [if_pos z, her0 z, Bool.false_and, if_neg (show ¬ false = true by decide), Int32.add_zero, nI_1]
            rfl
          · rw [if_neg z, m1.1.g0, Option.bind_some, m1.1.r0 (by omega), Option.bind_some, m1.2.1 _ (by omega), her1 z, Bool.true_and]
            by_cases z1 : m_X6_inside (S (5 * k + 1)) a1 a3 = 0
            · rw [if_pos (show m_X7_in (S (5 * k + 1)) a1 a3 = 0 from z1), decide_eq_false (fun q => q z1), Bool.false_and, if_neg (show ¬ false = true by decide), Int32.add_zero, nI_1]
              rfl
            · rw [if_neg (show ¬ m_X7_in (S (5 * k + 1)) a1 a3 = 0 from z1), Option.bind_some, m1.1.r0 (by omega), Option.bind_some, m1.2.1 _ (by omega), decide_eq_true z1, Bool.true_and]
              by_cases z2 : m_X6_inside (S (5 * k + 2)) a2 a4 = 0
              · rw [if_pos (show m_X7_in (S (5 * k + 2)) a2 a4 = 0 from z2), decide_eq_false (fun q => q z2), if_neg (show ¬ false = true by decide), Int32.add_zero, nI_1]
                rfl
              · rw [if_neg (show ¬ m_X7_in (S (5 * k + 2)) a2 a4 = 0 from z2), decide_eq_true z2, if_pos (show true = true from rfl), nI_1, nI_1]) (by
          rintro t ⟨⟩ -
          exact ⟨_, by rw [m_X7_within_p37, if_pos (by decide)], rfl⟩) 24 0 n () rfl (by omega) trivial
        exact e
end NE
