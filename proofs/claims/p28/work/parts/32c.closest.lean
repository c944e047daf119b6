/-! THE LAW'S isClosest -/
theorem in63_all : ∀ a, a < 64 → m_X6_inside (nI a) 0 63 = 1 := by decide +kernel
theorem inB_her {S : Nat → Int32} (hw : WF S) {i : Nat} (hi : i < 24) : inB S 0 0 63 63 i = herB S i := by
  obtain ⟨x, y, hx, hy, ex, ey, -, -⟩ := codeS_at (hw.1 i hi)
  unfold inB
  rw [ex, ey, in63_all x hx, in63_all y hy]
  cases herB S i <;> rfl
/-- the best couple so far -/
theorem inC_c {S : Nat → Int32} {i m : Nat} (hh : herB S i = true) : ∀ k, (inC S i m k = m ∧ ∀ j, i < j → j < k → herB S j = true → m ≠ 0 ∧ m ≤ cde S i j + 1) ∨ (∃ j, i < j ∧ j < k ∧ herB S j = true ∧ inC S i m k = cde S i j + 1 ∧ (m = 0 ∨ cde S i j + 1 < m) ∧ ∀ j', i < j' → j' < k → herB S j' = true → cde S i j ≤ cde S i j')
  | 0 => Or.inl ⟨rfl, fun j _ h => absurd h (Nat.not_lt_zero _)⟩
  | k + 1 => by
    have ih := inC_c (S := S) (i := i) (m := m) hh k
    unfold inC
    by_cases hk : i < k
    · rw [if_pos ⟨hk, hh⟩]
      unfold stC
      by_cases hj : herB S k = true
      · rcases ih with ⟨a1, a2⟩ | ⟨j, a1, a2, a3, a4, a5, a6⟩
        · rw [a1]
          by_cases z : m = 0 ∨ cde S i k + 1 < m
          · rw [if_pos ⟨hj, z⟩]
            refine Or.inr ⟨k, hk, Nat.lt_succ_self k, hj, rfl, z, fun j' b1 b2 b3 => ?_⟩
            by_cases e : j' = k
            · rw [e]
              exact Nat.le_refl _
            · have := a2 j' b1 (by omega) b3
              omega
          · rw [if_neg (fun q => z q.2)]
            refine Or.inl ⟨rfl, fun j' b1 b2 b3 => ?_⟩
            by_cases e : j' = k
            · rw [e]
              omega
            · exact a2 j' b1 (by omega) b3
        · rw [a4]
          by_cases z : cde S i k + 1 < cde S i j + 1
          · rw [if_pos ⟨hj, Or.inr z⟩]
            refine Or.inr ⟨k, hk, Nat.lt_succ_self k, hj, rfl, by omega, fun j' b1 b2 b3 => ?_⟩
            by_cases e : j' = k
            · rw [e]
              exact Nat.le_refl _
            · have := a6 j' b1 (by omega) b3
              omega
          · rw [if_neg (fun q => by omega)]
            refine Or.inr ⟨j, a1, by omega, a3, rfl, a5, fun j' b1 b2 b3 => ?_⟩
            by_cases e : j' = k
            · rw [e]
              omega
            · exact a6 j' b1 (by omega) b3
      · rw [if_neg (fun q => hj q.1)]
        rcases ih with ⟨a1, a2⟩ | ⟨j, a1, a2, a3, a4, a5, a6⟩
        · exact Or.inl ⟨a1, fun j' b1 b2 b3 => a2 j' b1 (by
            rcases Nat.lt_or_ge j' k with z | z
            · exact z
            · rw [show j' = k by omega] at b3
              exact absurd b3 hj) b3⟩
        · exact Or.inr ⟨j, a1, by omega, a3, a4, a5, fun j' b1 b2 b3 => a6 j' b1 (by
            rcases Nat.lt_or_ge j' k with z | z
            · exact z
            · rw [show j' = k by omega] at b3
              exact absurd b3 hj) b3⟩
    · rw [if_neg (fun q => hk q.1)]
      rcases ih with ⟨a1, a2⟩ | ⟨j, a1, a2, a3, a4, a5, a6⟩
      · exact Or.inl ⟨a1, fun j' b1 b2 b3 => a2 j' b1 (by omega) b3⟩
      · exact Or.inr ⟨j, a1, by omega, a3, a4, a5, fun j' b1 b2 b3 => a6 j' b1 (by omega) b3⟩
theorem ouC_c {S : Nat → Int32} : ∀ k, k ≤ 24 → (ouC S k = 0 ∧ ∀ i j, i < k → i < j → j < 24 → herB S i = true → herB S j = true → False) ∨ (∃ i j, i < k ∧ i < j ∧ j < 24 ∧ herB S i = true ∧ herB S j = true ∧ ouC S k = cde S i j + 1 ∧ ∀ i' j', i' < k → i' < j' → j' < 24 → herB S i' = true → herB S j' = true → cde S i j ≤ cde S i' j')
  | 0, _ => Or.inl ⟨rfl, fun i j h => absurd h (Nat.not_lt_zero _)⟩
  | k + 1, hk => by
    have ih := ouC_c (S := S) k (by omega)
    rw [ouC]
    cases hh : herB S k with
    | false =>
      rw [inC_no hh]
      rcases ih with ⟨a1, a2⟩ | ⟨i, j, a1, a2, a3, a4, a5, a6, a7⟩
      · refine Or.inl ⟨a1, fun i j b1 b2 b3 b4 b5 => a2 i j ?_ b2 b3 b4 b5⟩
        rcases Nat.lt_or_ge i k with z | z
        · exact z
        · rw [show i = k by omega, hh] at b4
          cases b4
      · refine Or.inr ⟨i, j, by omega, a2, a3, a4, a5, a6, fun i' j' b1 b2 b3 b4 b5 => a7 i' j' ?_ b2 b3 b4 b5⟩
        rcases Nat.lt_or_ge i' k with z | z
        · exact z
        · rw [show i' = k by omega, hh] at b4
          cases b4
    | true =>
      rcases inC_c (S := S) (i := k) (m := ouC S k) hh 24 with ⟨c1, c2⟩ | ⟨j, c1, c2, c3, c4, c5, c6⟩
      · rw [c1]
        rcases ih with ⟨a1, a2⟩ | ⟨i, j, a1, a2, a3, a4, a5, a6, a7⟩
        · refine Or.inl ⟨a1, fun i j b1 b2 b3 b4 b5 => ?_⟩
          rcases Nat.lt_or_ge i k with z | z
          · exact a2 i j z b2 b3 b4 b5
          · have := (c2 j (by omega) b3 b5).1
            exact this a1
        · refine Or.inr ⟨i, j, by omega, a2, a3, a4, a5, a6, fun i' j' b1 b2 b3 b4 b5 => ?_⟩
          rcases Nat.lt_or_ge i' k with z | z
          · exact a7 i' j' z b2 b3 b4 b5
          · have e : i' = k := by omega
            subst e
            have := (c2 j' b2 b3 b5).2
            omega
      · refine Or.inr ⟨k, j, Nat.lt_succ_self k, c1, c2, hh, c3, c4, fun i' j' b1 b2 b3 b4 b5 => ?_⟩
        rcases Nat.lt_or_ge i' k with z | z
        · rcases ih with ⟨a1, a2⟩ | ⟨i, j2, a1, a2, a3, a4, a5, a6, a7⟩
          · exact (a2 i' j' z b2 b3 b4 b5).elim
          · have := a7 i' j' z b2 b3 b4 b5
            omega
        · have e : i' = k := by omega
          subst e
          exact c6 j' b2 b3 b5
section KC
variable {n h c L : Nat} {w : Wd} {S : Nat → Int32} {P : Nat → Nat → Int32} {B : Nat → Int32}
theorem l_within (hn : 600 ≤ n) (H : Kc w h S P c L B) : m_LX_within n w h 0 0 63 63 = some (nI (cB (herB S) 24)) := by
  obtain ⟨hw, g, sc⟩ := H
  have cls : m_X6_within_p31 n n w h 0 0 63 63 0 0 = some (nI (cB (inB S 0 0 63 63) 24)) := by
    obtain ⟨F, t0, f0, fR⟩ := g.1
    obtain ⟨v, e, rfl⟩ := lp (σ := Unit) (R := Int32) (fun t k _ => m_X6_within_p31 n t w h 0 0 63 63 (nI (cB (inB S 0 0 63 63) k)) (nI k)) (fun _ _ => True) (fun v => v = nI (cB (inB S 0 0 63 63) 24)) 24 (by
      rintro t k ⟨⟩ hk -
      left
      refine ⟨(), ?_, trivial⟩
      rw [m_X6_within_p31, if_neg (show ¬ (24 : Int32) ≤ nI k from nI_ge hk (by decide)), g.n0, Option.bind_some, f0.q0, Option.bind_some, f0.r0 hk, Option.bind_some, fR.1 0 k (by decide) hk, cB_s]
      unfold inB
      by_cases z : S (5 * k) = 0
      · rw [if_pos (show S (5 * k + 0) = 0 from z), her0 z, Bool.false_and, if_neg (show ¬ false = true by decide), nI_1]
        rfl
      · rw [if_neg (show ¬ S (5 * k + 0) = 0 from z), Option.bind_some, f0.q1, Option.bind_some, f0.r1 hk, Option.bind_some, fR.1 1 k (by decide) hk, her1 z, Bool.true_and]
        by_cases z1 : m_X6_inside (S (5 * k + 1)) 0 63 = 0
        · rw [if_pos z1, decide_eq_false (fun q => q z1), Bool.false_and, if_neg (show ¬ false = true by decide), nI_1]
          rfl
        · rw [if_neg z1, Option.bind_some, f0.q2, Option.bind_some, f0.r2 hk, Option.bind_some, fR.1 2 k (by decide) hk, decide_eq_true z1, Bool.true_and]
          by_cases z2 : m_X6_inside (S (5 * k + 2)) 0 63 = 0
          · rw [if_pos z2, decide_eq_false (fun q => q z2), if_neg (show ¬ false = true by decide), nI_1]
            rfl
          · rw [if_neg z2, decide_eq_true z2, if_pos (show true = true from rfl), nI_1, nI_1]) (by
      rintro t ⟨⟩ -
      exact ⟨_, by rw [m_X6_within_p31, if_pos (by decide)], rfl⟩) 24 0 n () rfl (by omega) trivial
    exact e
  have h1 : ¬ m_X6_isPosition 0 0 = 0 := by decide
  have h2 : ¬ m_X6_isPosition 63 63 = 0 := by decide
  rw [m_LX_within, g.ck, Option.bind_some, m_X6_within, if_neg h1, if_neg h2, throw0, Option.bind_some, cls, cB_cong (q := herB S) fun i hi => inB_her hw hi]
/-- how many there are on level 0, and how many positions -/
theorem many_pos (hw : WF S) : (∀ i j, i < 24 → j < 24 → i ≠ j → herB S i = true → herB S j = true → codeS S i ≠ codeS S j) → dsN (cdS S 0) = cB (herB S) 24 := by
  intro h
  unfold dsN
  rw [← cB_range]
  refine cB_img (f := codeS S) (fun j hj _ => ?_) (fun i j hi hj pi pj he => ?_) fun i _ => ?_
  · obtain ⟨x, y, -, -, -, -, -, hc⟩ := codeS_at (hw.1 j hj)
    exact hc
  · by_cases z : i = j
    · exact z
    · exact absurd he (h i j hi hj z pi pj)
  · rw [decide_eq_true_eq]
    unfold cdS
    rw [List.mem_map]
    constructor
    · rintro ⟨j, j1, j2⟩
      obtain ⟨k1, k2, -⟩ := onS_mem.mp j1
      exact ⟨j, k1, decide_eq_true k2, j2⟩
    · rintro ⟨j, j1, j2, j3⟩
      exact ⟨j, onS_mem.mpr ⟨j1, of_decide_eq_true j2, Nat.zero_le _⟩, j3⟩
theorem few_pos (hw : WF S) {i j : Nat} (hi : i < 24) (hj : j < 24) (hne : i ≠ j) (pi : herB S i = true) (pj : herB S j = true) (he : codeS S i = codeS S j) : dsN (cdS S 0) < cB (herB S) 24 := by
  unfold dsN
  rw [← cB_range]
  refine cB_img_lt (f := codeS S) (fun j hj _ => ?_) (fun i _ => ?_) hi hj hne pi pj he
  · obtain ⟨x, y, -, -, -, -, -, hc⟩ := codeS_at (hw.1 j hj)
    exact hc
  · rw [decide_eq_true_eq]
    unfold cdS
    rw [List.mem_map]
    constructor
    · rintro ⟨j, j1, j2⟩
      obtain ⟨k1, k2, -⟩ := onS_mem.mp j1
      exact ⟨j, k1, decide_eq_true k2, j2⟩
    · rintro ⟨j, j1, j2, j3⟩
      exact ⟨j, onS_mem.mpr ⟨j1, of_decide_eq_true j2, Nat.zero_le _⟩, j3⟩
theorem dsq_0 {a b : Nat} : dsq a b = 0 ↔ a = b := by
  unfold dsq
  constructor
  · intro h
    rcases Nat.mul_eq_zero.mp h with z | z <;> omega
  · intro h
    subst h
    rw [Nat.sub_self]
theorem l_isClosest (hn : 600 ≤ n) (H : Kc w h S P c L B) : m_L_isClosest n w h = some 1 := by
  have hw := H.1
  have c0 : m_LX_closest n w h 0 = some (clV (ouC S 24) 0) := l_closest (what := 0) hn H (by decide)
  have c1 : m_LX_closest n w h 1 = some (clV (ouC S 24) 1) := l_closest (what := 1) hn H (by decide)
  have c2 : m_LX_closest n w h 2 = some (clV (ouC S 24) 2) := l_closest (what := 2) hn H (by decide)
  have c24 : cB (herB S) 24 ≤ 24 := cB_le _ 24
  rcases ouC_c (S := S) 24 (Nat.le_refl _) with ⟨a1, a2⟩ | ⟨i, j, hi, hij, hj, pi, pj, a6, a7⟩
  · have few : cB (herB S) 24 < 2 := by
      rcases Nat.lt_or_ge (cB (herB S) 24) 2 with z | z
      · exact z
      · exfalso
        have key : ∀ k, k ≤ 24 → 2 ≤ cB (herB S) k → ∃ a b, a < b ∧ b < k ∧ herB S a = true ∧ herB S b = true := by
          intro k
          induction k with
          | zero => intro _ q; exact absurd (show 2 ≤ 0 from q) (by decide)
          | succ k ih =>
            intro hk q
            rw [cB_s] at q
            by_cases p : herB S k = true
            · rw [if_pos p] at q
              have one : ∀ m, 1 ≤ cB (herB S) m → ∃ a, a < m ∧ herB S a = true := by
                intro m
                induction m with
                | zero => intro q; exact absurd (show 1 ≤ 0 from q) (by decide)
                | succ m ih2 =>
                  intro q
                  by_cases p2 : herB S m = true
                  · exact ⟨m, Nat.lt_succ_self m, p2⟩
                  · rw [cB_s, if_neg p2] at q
                    obtain ⟨a, b1, b2⟩ := ih2 q
                    exact ⟨a, by omega, b2⟩
              obtain ⟨a, b1, b2⟩ := one k (by omega)
              exact ⟨a, k, b1, Nat.lt_succ_self k, b2, p⟩
            · rw [if_neg p] at q
              obtain ⟨a, b, b1, b2, b3, b4⟩ := ih (by omega) q
              exact ⟨a, b, b1, by omega, b3, b4⟩
        obtain ⟨a, b, b1, b2, b3, b4⟩ := key 24 (Nat.le_refl _) z
        exact a2 a b (by omega) b1 b2 b3 b4
    have v : ∀ k, clV (ouC S 24) k = -1 := fun k => by
      rw [a1]
      exact if_pos rfl
    rw [m_L_isClosest, l_within hn H, Option.bind_some, c0, Option.bind_some, c1, Option.bind_some, c2, Option.bind_some, v, v, v, if_neg (show ¬ (2 : Int32) ≤ nI (cB (herB S) 24) from nI_ge (b := 2) few (by decide)), if_pos rfl, if_pos rfl, if_pos rfl]
  · have two : 2 ≤ cB (herB S) 24 := cB_two hi hj (by omega) pi pj
    have hi24 : i < 24 := hi
    obtain ⟨x1, ex1, y1, ey1⟩ := (hw.1 i hi24).px
    obtain ⟨x2, ex2, y2, ey2⟩ := (hw.1 j hj).px
    have hlt := cde_lt hw hi24 hj
    have ecd : cde S i j = (dN S i (pxN S j) (pyN S j) * 32 + i) * 32 + j := rfl
    have d1 : (ouC S 24 - 1) / 1024 = dN S i (pxN S j) (pyN S j) := by omega
    have d2 : (ouC S 24 - 1) / 32 % 32 = i := by omega
    have d3 : (ouC S 24 - 1) % 32 = j := by omega
    have v0 : clV (ouC S 24) 0 = nI (dN S i (pxN S j) (pyN S j)) := by
      unfold clV
      rw [if_neg (by omega), if_pos rfl, d1]
    have v1 : clV (ouC S 24) 1 = nI i := by
      unfold clV
      rw [if_neg (by omega), if_neg (by decide), if_pos rfl, d2]
    have v2 : clV (ouC S 24) 2 = nI j := by
      unfold clV
      rw [if_neg (by omega), if_neg (by decide), if_neg (by decide), d3]
    have hd : dN S i (pxN S j) (pyN S j) < 10000 := by omega
    have p1 : m_LX_point n w h (nI i) 1 = some (nI (pxN S i)) := by
      rw [← ex1]
      exact l_point (what := 1) hn H hi24 (by decide)
    have p2 : m_LX_point n w h (nI j) 1 = some (nI (pxN S j)) := by
      rw [← ex2]
      exact l_point (what := 1) hn H hj (by decide)
    have p3 : m_LX_point n w h (nI i) 2 = some (nI (pyN S i)) := by
      rw [← ey1]
      exact l_point (what := 2) hn H hi24 (by decide)
    have p4 : m_LX_point n w h (nI j) 2 = some (nI (pyN S j)) := by
      rw [← ey2]
      exact l_point (what := 2) hn H hj (by decide)
    have sqr : ∀ a b : Nat, (nI a - nI b) * (nI a - nI b) = nI (dsq a b) := fun a b => by
      unfold dsq
      rcases Nat.le_total b a with z | z
      · rw [pk_sub z, pk_mul, show b - a = 0 by omega, Nat.add_zero]
      · have : nI a - nI b = -(nI (b - a)) := by
          rw [← pk_sub z, Int32.neg_sub]
        rw [this, Int32.neg_mul_neg, pk_mul, show a - b = 0 by omega, Nat.zero_add]
    have ed : (nI (pxN S i) - nI (pxN S j)) * (nI (pxN S i) - nI (pxN S j)) + (nI (pyN S i) - nI (pyN S j)) * (nI (pyN S i) - nI (pyN S j)) = nI (dN S i (pxN S j) (pyN S j)) := by
      rw [sqr, sqr, nI_add]
      rfl
    have l4 : m_LX_level n w h 0 4 = some (nI (dsN (cdS S 0))) := l_level (l := 0) (what := 4) hn H (by decide) (by decide)
    have hds := ds_le _ (cdS_12 (l := 0) hw)
    have hcl := cd_len S 0
    rw [m_L_isClosest, l_within hn H, Option.bind_some, c0, Option.bind_some, c1, Option.bind_some, c2, Option.bind_some, v0, v1, v2, if_pos (show (2 : Int32) ≤ nI (cB (herB S) 24) from nI_le (a := 2) two (by omega)), p1, Option.bind_some, p2, Option.bind_some, p3, Option.bind_some, p4, Option.bind_some, if_neg (nI_ge hij (by omega)), ed, if_pos rfl]
    by_cases z : dN S i (pxN S j) (pyN S j) = 0
    · have same : codeS S i = codeS S j := by
        have q : dsq (pxN S i) (pxN S j) + dsq (pyN S i) (pyN S j) = 0 := z
        have q1 := dsq_0.mp (show dsq (pxN S i) (pxN S j) = 0 by omega)
        have q2 := dsq_0.mp (show dsq (pyN S i) (pyN S j) = 0 by omega)
        show codeN (pxN S i) (pyN S i) = codeN (pxN S j) (pyN S j)
        rw [q1, q2]
      have lt := few_pos hw hi24 hj (by omega) pi pj same
      rw [if_pos (show nI (dN S i (pxN S j) (pyN S j)) = 0 by rw [z]; rfl), l4, Option.bind_some, if_neg (nI_ge lt (by omega))]
    · have nz : ¬ nI (dN S i (pxN S j) (pyN S j)) = 0 := fun q => z ((nI_eq (b := 0) (by omega) (by decide)).mp q)
      have all : ∀ a b, a < 24 → b < 24 → a ≠ b → herB S a = true → herB S b = true → codeS S a ≠ codeS S b := by
        have ord : ∀ a b, a < b → b < 24 → herB S a = true → herB S b = true → codeS S a ≠ codeS S b := fun a b b1 b2 b3 b4 he => by
          have q := a7 a b (by omega) b1 b2 b3 b4
          have ec2 : cde S a b = (dN S a (pxN S b) (pyN S b) * 32 + a) * 32 + b := rfl
          obtain ⟨xa, ya, h1, h2, -, -, ea, -⟩ := codeS_at (hw.1 a (by omega))
          have sx : pxN S a = pxN S b ∧ pyN S a = pyN S b := by
            have r1 := (hw.1 a (by omega)).px
            have r2 := (hw.1 b b2).px
            have he2 : codeN (pxN S a) (pyN S a) = codeN (pxN S b) (pyN S b) := he
            have s1 := xy_code _ r1.1 _ r1.2.2.1
            have s2 := xy_code _ r2.1 _ r2.2.2.1
            rw [he2] at s1
            exact ⟨s1.1.symm.trans s2.1, s1.2.symm.trans s2.2⟩
          have z0 : dN S a (pxN S b) (pyN S b) = 0 := by
            show dsq (pxN S a) (pxN S b) + dsq (pyN S a) (pyN S b) = 0
            rw [dsq_0.mpr sx.1, dsq_0.mpr sx.2]
          omega
        intro a b b1 b2 b3 b4 b5
        rcases Nat.lt_or_ge a b with q | q
        · exact ord a b q b2 b4 b5
        · exact fun e => ord b a (by omega) b1 b5 b4 e.symm
      have eq := many_pos hw all
      rw [if_neg nz, l4, Option.bind_some, if_pos (nI_le (by omega) (by omega))]
end KC
