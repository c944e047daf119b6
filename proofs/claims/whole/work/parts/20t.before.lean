/-! THE TABLES OF BEFORE -/
theorem m_before {n : Nat} (hn : 200 ≤ n) {w : Wd} {b : Nat} {I : Nat → Int32} {J : Nat → Int64} {A : Rw} {S : Nat → Int32} (h : MoC w b I J A) (hr : Row A S) (hw : WF S) :
    ∃ w', m_X7_laysBefore n w b = some w' ∧ (∃ A', MoC w' b I J A' ∧ (∀ l, l < 5 → Tb A' 6 7 l (nds S l)) ∧ ∀ j i, j < 4 ∨ j = 8 → A' j i = A j i) ∧ Fr w w' b := by
  obtain ⟨w1, e1, ⟨A1, h1, t1, a1⟩, q1⟩ := m_lays (n := n) (by omega) h hr hw
  rw [m_X7_laysBefore, h.c, Option.bind_some, e1, Option.bind_some]
  refine lp (σ := Wd) (fun t k v => m_X7_laysBefore_p6 n t v b (nI k)) (fun k v => (∃ A', MoC v b I J A' ∧ (∀ i, i < k → A' 6 i = A1 4 i) ∧ ∀ j i, j ≠ 6 → A' j i = A1 j i) ∧ Fr w v b) _ 160 ?_ ?_ 160 0 n w1 rfl (by omega) ⟨⟨A1, h1, fun i hi => absurd hi (Nat.not_lt_zero _), fun _ _ _ => rfl⟩, q1⟩
  · rintro t k v hk ⟨⟨A', h0, hB, hA⟩, hq⟩
    left
    obtain ⟨v1, e2, h2, q2⟩ := h0.w9 (A' 4 k) (k := k) hk
    refine ⟨v1, ?_, ⟨_, h2, fun i hi => ?_, fun j i hj => (setF_row hj).trans (hA j i hj)⟩, fun x hx => (q2 x hx).trans (hq x hx)⟩
    · show m_X7_laysBefore_p6 n (t + 1) v b (nI k) = _
      rw [m_X7_laysBefore_p6, if_neg (show ¬ (160 : Int32) ≤ nI k from nI_ge hk (by decide)), h0.g9, Option.bind_some, h0.g7, Option.bind_some, h0.r7 hk, Option.bind_some, e2, Option.bind_some, nI_1]
    · by_cases e : i = k
      · subst e
        rw [setF_self, hA 4 _ (by decide)]
      · rw [setF_col e, hB i (by omega)]
  · rintro t v ⟨⟨A', h0, hB, hA⟩, hq⟩
    show ∃ r, m_X7_laysBefore_p6 n (t + 1) v b (nI 160) = some r ∧ _
    rw [m_X7_laysBefore_p6, if_pos (by decide), m_X7_laysBefore_p31]
    refine lp (σ := Wd) (fun t k v => m_X7_laysBefore_p33 n t v b (nI k)) (fun k v => (∃ A', MoC v b I J A' ∧ (∀ i, i < 160 → A' 6 i = A1 4 i) ∧ (∀ i, i < k → A' 7 i = A1 5 i) ∧ ∀ j i, j ≠ 6 → j ≠ 7 → A' j i = A1 j i) ∧ Fr w v b) _ 5 ?_ ?_ 5 0 n v rfl (by omega) ⟨⟨A', h0, hB, fun i hi => absurd hi (Nat.not_lt_zero _), fun j i a _ => hA j i a⟩, hq⟩
    · rintro t k v hk ⟨⟨A', h0, hB, hC, hA⟩, hq⟩
      left
      obtain ⟨v1, e2, h2, q2⟩ := h0.w10 (A' 5 k) (k := k) hk
      refine ⟨v1, ?_, ⟨_, h2, fun i hi => (setF_row (by decide)).trans (hB i hi), fun i hi => ?_, fun j i a c => (setF_row c).trans (hA j i a c)⟩, fun x hx => (q2 x hx).trans (hq x hx)⟩
      · show m_X7_laysBefore_p33 n (t + 1) v b (nI k) = _
        rw [m_X7_laysBefore_p33, if_neg (show ¬ (5 : Int32) ≤ nI k from nI_ge hk (by decide)), h0.g10, Option.bind_some, h0.g8, Option.bind_some, h0.r8 hk, Option.bind_some, e2, Option.bind_some, nI_1]
      · by_cases e : i = k
        · subst e
          rw [setF_self, hA 5 _ (by decide) (by decide)]
        · rw [setF_col e, hC i (by omega)]
    · rintro t v ⟨⟨A', h0, hB, hC, hA⟩, hq⟩
      refine ⟨v, by rw [m_X7_laysBefore_p33, if_pos (by decide)], ⟨A', h0, fun l hl => ⟨(hC l hl).trans (t1 l hl).1, fun i hi => ?_⟩, fun j i hj => (hA j i (by omega) (by omega)).trans (a1 j i (by omega) (by omega))⟩, hq⟩
      have := nds_len hw l
      exact (hB _ (by omega)).trans ((t1 l hl).2 i hi)
