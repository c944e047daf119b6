/-! THE REFERENCE'S SAVES AND UNDO -/
theorem e141 (c k : Nat) : (141 : Int32) * nI c + nI k = nI (141 * c + k) := by
  rw [show (141 : Int32) = nI 141 from rfl, pk_mul, nI_add]
abbrev Fr (w w' : Wd) (b : Nat) : Prop := ∀ q, (q < b ∨ b + 9 < q) → w' q = w q
theorem s_p51 {n : Nat} (hn : 600 ≤ n) {w : Wd} {b c : Nat} {I : Nat → Int32} {J : Nat → Int64} {A : Rw} (h : MoC w b I J A) (hI : I 3 = nI c) (hc : c < 4) :
    ∃ w', m_X7_saves_p51 n n w b 0 = some w' ∧ (∃ A', MoC w' b (setI I 3 (nI (c + 1))) J A' ∧ (∀ j i, j ≠ 1 → A' j i = A j i) ∧ ∀ i, A' 1 i = if 141 * c ≤ i ∧ i < 141 * c + 141 then A 0 (i - 141 * c) else A 1 i) ∧ Fr w w' b := by
  refine lp (σ := Wd) (fun t k w => m_X7_saves_p51 n t w b (nI k)) (fun k v => (∃ A', MoC v b I J A' ∧ (∀ j i, j ≠ 1 → A' j i = A j i) ∧ ∀ i, A' 1 i = if 141 * c ≤ i ∧ i < 141 * c + k then A 0 (i - 141 * c) else A 1 i) ∧ Fr w v b) _ 141 ?_ ?_ 141 0 n w rfl (by omega) ⟨⟨A, h, fun _ _ _ => rfl, fun i => by rw [if_neg (by omega)]⟩, fun _ _ => rfl⟩
  · rintro t k v hk ⟨⟨A', h0, hA, hB⟩, hq⟩
    left
    obtain ⟨w1, e1, h1, q1⟩ := h0.w1 (A' 0 k) (k := 141 * c + k) (by omega)
    refine ⟨w1, ?_, ⟨_, h1, ?_, ?_⟩, fun q hq1 => (q1 q hq1).trans (hq q hq1)⟩
    · show m_X7_saves_p51 n (t + 1) v b (nI k) = _
      rw [m_X7_saves_p51, if_neg (show ¬ (141 : Int32) ≤ nI k from nI_ge hk (by decide)), h0.g1, Option.bind_some, h0.i3, Option.bind_some, h0.g0, Option.bind_some, h0.r0 hk, Option.bind_some, hI, e141, e1, Option.bind_some, nI_1]
    · intro j i hj
      rw [setF_row hj]
      exact hA j i hj
    · intro i
      rw [setF_at, hB]
      by_cases e : i = 141 * c + k
      · subst e
        rw [if_pos ⟨rfl, rfl⟩, if_pos (by omega), hA 0 k (by decide)]
        exact congrArg (A 0) (by omega)
      · rw [if_neg (fun q => e q.2)]
        by_cases g : 141 * c ≤ i ∧ i < 141 * c + k
        · rw [if_pos g, if_pos (by omega)]
        · rw [if_neg g, if_neg (by omega)]
  · rintro t v ⟨⟨A', h0, hA, hB⟩, hq⟩
    obtain ⟨w1, e1, h1, q1⟩ := h0.p3 (nI (c + 1))
    refine ⟨w1, ?_, ⟨A', h1, hA, hB⟩, fun q hq1 => (q1 q hq1).trans (hq q hq1)⟩
    show m_X7_saves_p51 n (t + 1) v b (nI 141) = _
    rw [m_X7_saves_p51, if_pos (by decide), m_X7_saves_p85, h0.i3, Option.bind_some, hI, nI_1, e1, Option.bind_some]
/-- the rows of the past, one more behind (the oldest falls out when there are four) -/
def pastS (c : Nat) (A A' : Rw) : Prop := ∀ j i, j < min (c + 1) 4 → i < 141 → A' 1 (141 * j + i) = if j + 1 = min (c + 1) 4 then A 0 i else A 1 (141 * (if c = 4 then j + 1 else j) + i)
theorem m_saves {n : Nat} (hn : 600 ≤ n) {w : Wd} {b c : Nat} {I : Nat → Int32} {J : Nat → Int64} {A : Rw} (h : MoC w b I J A) (hI : I 3 = nI c) (hc : c ≤ 4) :
    ∃ w', m_X7_saves n w b = some w' ∧ (∃ I' A', MoC w' b I' J A' ∧ I' 3 = nI (min (c + 1) 4) ∧ (∀ k, k ≠ 3 → I' k = I k) ∧ (∀ j i, j ≠ 1 → A' j i = A j i) ∧ pastS c A A') ∧ Fr w w' b := by
  by_cases h4 : c = 4
  · subst h4
    have key : ∃ r, m_X7_saves_p10 n n w b 0 = some r ∧ ((∃ I' A', MoC r b I' J A' ∧ I' 3 = nI (min (4 + 1) 4) ∧ (∀ k, k ≠ 3 → I' k = I k) ∧ (∀ j i, j ≠ 1 → A' j i = A j i) ∧ pastS 4 A A') ∧ Fr w r b) := by
      refine lp (σ := Wd) (fun t k w => m_X7_saves_p10 n t w b (nI k)) (fun k v => (∃ A', MoC v b I J A' ∧ (∀ j i, j ≠ 1 → A' j i = A j i) ∧ ∀ i, A' 1 i = if i < k then A 1 (i + 141) else A 1 i) ∧ Fr w v b) _ 423 ?_ ?_ 423 0 n w rfl (by omega) ⟨⟨A, h, fun _ _ _ => rfl, fun i => by rw [if_neg (by omega)]⟩, fun _ _ => rfl⟩
      · rintro t k v hk ⟨⟨A', h0, hA, hB⟩, hq⟩
        left
        obtain ⟨w1, e1, h1, q1⟩ := h0.w1 (A' 1 (k + 141)) (k := k) (by omega)
        refine ⟨w1, ?_, ⟨_, h1, ?_, ?_⟩, fun q hq1 => (q1 q hq1).trans (hq q hq1)⟩
        · show m_X7_saves_p10 n (t + 1) v b (nI k) = _
          rw [m_X7_saves_p10, if_neg (show ¬ (423 : Int32) ≤ nI k from nI_ge hk (by decide)), h0.g1, Option.bind_some, Option.bind_some, show nI k + 141 = nI (k + 141) from nI_add k 141, h0.r1 (by omega), Option.bind_some, e1, Option.bind_some, nI_1]
        · intro j i hj
          rw [setF_row hj]
          exact hA j i hj
        · intro i
          rw [setF_at, hB, hB]
          by_cases e : i = k
          · subst e
            rw [if_pos ⟨rfl, rfl⟩, if_neg (by omega), if_pos (by omega)]
          · rw [if_neg (fun q => e q.2)]
            by_cases g : i < k
            · rw [if_pos g, if_pos (by omega)]
            · rw [if_neg g, if_neg (by omega)]
      · rintro t v ⟨⟨A', h0, hA, hB⟩, hq⟩
        obtain ⟨w1, e1, h1, q1⟩ := h0.p3 (nI 3)
        obtain ⟨w2, e2, ⟨A2, h2, hA2, hB2⟩, q2⟩ := s_p51 hn h1 (c := 3) setI_self (by decide)
        refine ⟨w2, ?_, ⟨_, A2, h2, setI_self, fun k hk => by rw [setI_ne hk, setI_ne hk], fun j i hj => (hA2 j i hj).trans (hA j i hj), ?_⟩, fun q hq1 => (q2 q hq1).trans ((q1 q hq1).trans (hq q hq1))⟩
        · show m_X7_saves_p10 n (t + 1) v b (nI 423) = _
          rw [m_X7_saves_p10, if_pos (by decide), m_X7_saves_p39, h0.i3, Option.bind_some, hI, show nI 4 - 1 = nI 3 by decide +kernel, e1, Option.bind_some, e2]
        · intro j i hj hi
          have hj4 : j < 4 := by omega
          rw [hB2]
          by_cases e : j = 3
          · subst e
            rw [if_pos (by omega), if_pos (by decide), hA 0 _ (by decide)]
            exact congrArg (A 0) (by omega)
          · rw [if_neg (by omega), if_neg (by omega), hB, if_pos (by omega), if_pos rfl]
            exact congrArg (A 1) (by omega)
    obtain ⟨r, e, g1, g2⟩ := key
    refine ⟨r, ?_, g1, g2⟩
    rw [m_X7_saves, h.i3, Option.bind_some, hI, if_pos (by decide), e]
  · obtain ⟨w2, e2, ⟨A2, h2, hA2, hB2⟩, q2⟩ := s_p51 hn h hI (by omega)
    refine ⟨w2, ?_, ⟨_, A2, h2, by rw [setI_self, show min (c + 1) 4 = c + 1 by omega], fun k hk => setI_ne hk, hA2, ?_⟩, q2⟩
    · rw [m_X7_saves, h.i3, Option.bind_some, hI, if_neg (show ¬ nI c = (4 : Int32) from fun q => h4 ((nI_eq (by omega) (by decide)).mp q)), e2]
    · intro j i hj hi
      rw [hB2, if_neg h4]
      by_cases e : j = c
      · subst e
        rw [if_pos (by omega), if_pos (by omega)]
        exact congrArg (A 0) (by omega)
      · rw [if_neg (by omega), if_neg (by omega)]
/-- the reference's undo, when there is something saved -/
theorem m_undo7 {n : Nat} (hn : 600 ≤ n) {w : Wd} {b c : Nat} {I : Nat → Int32} {J : Nat → Int64} {A : Rw} (h : MoC w b I J A) (hI : I 3 = nI c) (hc : c < 4) :
    ∃ r, m_X7_undo_p33 n n w b 0 = some r ∧ r.1 = nI c ∧ (∃ A', MoC r.2 b I J A' ∧ (∀ j i, j ≠ 0 → A' j i = A j i) ∧ ∀ i, i < 141 → A' 0 i = A 1 (141 * c + i)) ∧ Fr w r.2 b := by
  refine lp (σ := Wd) (R := Int32 × Wd) (fun t k w => m_X7_undo_p33 n t w b (nI k)) (fun k v => (∃ A', MoC v b I J A' ∧ (∀ j i, j ≠ 0 → A' j i = A j i) ∧ ∀ i, i < k → A' 0 i = A 1 (141 * c + i)) ∧ Fr w v b) (fun r => r.1 = nI c ∧ (∃ A', MoC r.2 b I J A' ∧ (∀ j i, j ≠ 0 → A' j i = A j i) ∧ ∀ i, i < 141 → A' 0 i = A 1 (141 * c + i)) ∧ Fr w r.2 b) 141 ?_ ?_ 141 0 n w rfl (by omega) ⟨⟨A, h, fun _ _ _ => rfl, fun i hi => absurd hi (Nat.not_lt_zero _)⟩, fun _ _ => rfl⟩
  · rintro t k v hk ⟨⟨A', h0, hA, hB⟩, hq⟩
    left
    obtain ⟨w1, e1, h1, q1⟩ := h0.w0 (A' 1 (141 * c + k)) (k := k) (by omega)
    refine ⟨w1, ?_, ⟨_, h1, ?_, ?_⟩, fun q hq1 => (q1 q hq1).trans (hq q hq1)⟩
    · show m_X7_undo_p33 n (t + 1) v b (nI k) = _
      rw [m_X7_undo_p33, if_neg (show ¬ (141 : Int32) ≤ nI k from nI_ge hk (by decide)), h0.g0, Option.bind_some, h0.g1, Option.bind_some, h0.i3, Option.bind_some, hI, e141, h0.r1 (by omega), Option.bind_some, e1, Option.bind_some, nI_1]
    · intro j i hj
      rw [setF_row hj]
      exact hA j i hj
    · intro i hi
      by_cases e : i = k
      · subst e
        rw [setF_self, hA 1 _ (by decide)]
      · rw [setF_col e]
        exact hB i (by omega)
  · rintro t v ⟨⟨A', h0, hA, hB⟩, hq⟩
    refine ⟨(nI c, v), ?_, rfl, ⟨A', h0, hA, hB⟩, hq⟩
    show m_X7_undo_p33 n (t + 1) v b (nI 141) = _
    rw [m_X7_undo_p33, if_pos (by decide), h0.i3, Option.bind_some, hI]
