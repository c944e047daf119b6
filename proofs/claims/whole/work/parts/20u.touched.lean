/-! WHAT THE REFERENCE COUNTS AS TOUCHED -/
theorem m_isNode {n : Nat} (hn : 60 ≤ n) {w : Wd} {b l q : Nat} {I : Nat → Int32} {J : Nat → Int64} {A : Rw} {qs : List Nat} (h : MoC w b I J A) (ht : Tb A 4 5 l qs) (hl : l < 5) (h24 : qs.length ≤ 24) (hb : ∀ x ∈ qs, x < 2 ^ 31) (hq : q < 2 ^ 31) : m_X7_isNode n w b (nI l) (nI q) = some (if q ∈ qs then 1 else 0) := by
  unfold m_X7_isNode
  obtain ⟨v, e, rfl⟩ := lp (σ := Unit) (R := Int32) (fun t i _ => m_X7_isNode_p5 n t w b (nI l) (nI q) (if q ∈ qs.take i then 1 else 0) (nI i)) (fun _ _ => True) (fun v => v = if q ∈ qs then 1 else 0) qs.length (by
    rintro t i ⟨⟩ hi -
    left
    refine ⟨(), ?_, trivial⟩
    rw [m_X7_isNode_p5, h.g8, Option.bind_some, h.r8 hl, Option.bind_some, ht.1, if_neg (nI_ge hi (by omega)), take_s hi]
    by_cases c : q ∈ qs.take i
    · rw [if_pos c, if_neg (by decide), if_pos (List.mem_append_left _ c), nI_1]
    · rw [if_neg c, if_pos rfl, h.c, Option.bind_some, m_X7_nodeAt, h.g7, Option.bind_some, e32, h.r7 (by omega), Option.bind_some, Option.bind_some, ht.2 i hi]
      by_cases d : qs.getD i 0 = q
      · rw [if_pos (by rw [d]), if_pos (by rw [d]; exact List.mem_append_right _ (List.mem_singleton.mpr rfl)), nI_1]
      · rw [if_neg (fun y => d ((nI_eq (hb _ (getD_mem hi)) hq).mp y)), if_neg (fun y => (List.mem_append.mp y).elim c fun z => d (List.mem_singleton.mp z).symm), nI_1]) (by
    rintro t ⟨⟩ -
    refine ⟨_, ?_, rfl⟩
    rw [m_X7_isNode_p5, h.g8, Option.bind_some, h.r8 hl, Option.bind_some, ht.1, if_pos (Int32.le_refl _), List.take_length]
    by_cases c : q ∈ qs
    · rw [if_pos c]
      rfl
    · rw [if_neg c]
      rfl) qs.length 0 n () (by omega) (by omega) trivial
  exact e
theorem m_touched {n : Nat} (hn : 200 ≤ n) {w : Wd} {b : Nat} {I : Nat → Int32} {J : Nat → Int64} {A : Rw} {S S' : Nat → Int32} (h : MoC w b I J A) (hr : Row A S') (hw : WF S) (hw' : WF S') (ht : ∀ l, l < 5 → Tb A 6 7 l (nds S l)) :
    ∃ w', m_X7_touched n w b = some (nI (touK S S' 5), w') ∧ (∃ A', MoC w' b I J A' ∧ ∀ j i, j < 4 ∨ j = 8 → A' j i = A j i) ∧ Fr w w' b := by
  obtain ⟨w1, e1, ⟨A1, h1, t1, a1⟩, q1⟩ := m_lays (n := n) (by omega) h hr hw'
  have tb : ∀ l, l < 5 → Tb A1 6 7 l (nds S l) := fun l hl => ⟨(a1 7 l (by decide) (by decide)).trans (ht l hl).1, fun i hi => (a1 6 _ (by decide) (by decide)).trans ((ht l hl).2 i hi)⟩
  refine ⟨w1, ?_, ⟨A1, h1, fun j i hj => a1 j i (by omega) (by omega)⟩, q1⟩
  rw [m_X7_touched, h.c, Option.bind_some, e1, Option.bind_some]
  obtain ⟨v, e, rfl⟩ := lp (σ := Unit) (R := Int32 × Wd) (fun t l _ => m_X7_touched_p8 n t w1 b (nI (touK S S' l)) (nI l)) (fun _ _ => True) (fun v => v = (nI (touK S S' 5), w1)) 5 (by
    rintro t l ⟨⟩ hl -
    left
    refine ⟨(), ?_, trivial⟩
    have hS := nds_len hw l
    have hS' := nds_len hw' l
    have b1 : ∀ x ∈ nds S l, x < 2 ^ 31 := fun x hx => by have := node_lt (cdS_12 hw) (((nds_of hw l).2 x).mp hx); omega
    have b2 : ∀ x ∈ nds S' l, x < 2 ^ 31 := fun x hx => by have := node_lt (cdS_12 hw') (((nds_of hw' l).2 x).mp hx); omega
    rw [m_X7_touched_p8, if_neg (show ¬ (5 : Int32) ≤ nI l from nI_ge hl (by decide))]
    obtain ⟨u, e, -⟩ := lpk (σ := Unit) (τ := Unit) (R := Option (Int32 × Wd)) (fun t' i _ => m_X7_touched_p18 n (fun w b0 b1 b2 => m_X7_touched_p8 n t w b0 b1 b2) t' w1 b (nI (touK S S' l)) (nI l) (nI (com ((nds S l).take i) (nds S' l))) (nI i)) (fun _ => m_X7_touched_p8 n t w1 b (nI (touK S S' (l + 1))) (nI (l + 1))) (fun _ _ => True) (fun _ => True) (nds S l).length (by
      rintro t' i ⟨⟩ hi -
      left
      refine ⟨(), ?_, trivial⟩
      rw [m_X7_touched_p18, h1.g10, Option.bind_some, h1.r10 hl, Option.bind_some, (tb l hl).1, if_neg (nI_ge hi (by omega)), h1.g9, Option.bind_some, e32, h1.r9 (by omega), Option.bind_some, (tb l hl).2 i hi, h1.c, Option.bind_some, m_isNode (by omega) h1 (t1 l hl) hl hS' b2 (b1 _ (getD_mem hi)), Option.bind_some, take_s hi, com_app]
      by_cases c : (nds S l).getD i 0 ∈ nds S' l
      · rw [if_pos c, if_neg (by decide), if_pos c, nI_1, nI_1]
      · rw [if_neg c, if_pos rfl, if_neg c, nI_1, Int32.add_zero]
        rfl) (by
      rintro t' ⟨⟩ -
      refine ⟨(), ?_, trivial⟩
      have c1 := com_le1 (qs := nds S l) (rs := nds S' l)
      have c2 := com_le2 (rs := nds S' l) (nds_of hw l).1
      rw [m_X7_touched_p18, h1.g10, Option.bind_some, h1.r10 hl, Option.bind_some, (tb l hl).1, if_pos (Int32.le_refl _), m_X7_touched_p63, h1.g10, Option.bind_some, h1.r10 hl, Option.bind_some, (tb l hl).1, h1.g8, Option.bind_some, h1.r8 hl, Option.bind_some, (t1 l hl).1, List.take_length, nI_add, show (2 : Int32) = nI 2 from rfl, pk_mul, pk_sub (by omega), nI_add, nI_1]
      rfl) (nds S l).length 0 n () (by omega) (by omega) trivial
    exact e) (by
    rintro t ⟨⟩ -
    exact ⟨_, by rw [m_X7_touched_p8, if_pos (by decide)], rfl⟩) 5 0 n () rfl (by omega) trivial
  exact e
