/-! THE REFERENCE'S TABLES ARE THE NODES -/
theorem nds_of {S : Nat → Int32} (hw : WF S) (l : Nat) : NodesOf (cdS S l) (nds S l) := ndL_of (cdS_12 hw)
theorem nds_len {S : Nat → Int32} (hw : WF S) (l : Nat) : (nds S l).length ≤ 24 := nd_len (nds_of hw l).1 fun q hq => ((nds_of hw l).2 q).mp hq
theorem Tb.oth {A A' : Rw} {l m : Nat} {qs : List Nat} (h : Tb A 4 5 m qs) (ho : Oth A A' l) (hne : m ≠ l) (hl : qs.length ≤ 24) : Tb A' 4 5 m qs :=
  ⟨(ho.2.2 m hne).trans h.1, fun i hi => (ho.2.1 _ (by omega)).trans (h.2 i hi)⟩
theorem m_lays {n : Nat} (hn : 60 ≤ n) {w : Wd} {b : Nat} {I : Nat → Int32} {J : Nat → Int64} {A : Rw} {S : Nat → Int32} (h : MoC w b I J A) (hr : Row A S) (hw : WF S) :
    ∃ w', m_X7_lays n w b = some w' ∧ (∃ A', MoC w' b I J A' ∧ (∀ l, l < 5 → Tb A' 4 5 l (nds S l)) ∧ ∀ j i, j ≠ 4 → j ≠ 5 → A' j i = A j i) ∧ Fr w w' b := by
  unfold m_X7_lays
  refine lp (σ := Wd) (fun t l v => m_X7_lays_p2 n t v b (nI l)) (fun l v => (∃ A', MoC v b I J A' ∧ (∀ m, m < l → Tb A' 4 5 m (nds S m)) ∧ ∀ j i, j ≠ 4 → j ≠ 5 → A' j i = A j i) ∧ Fr w v b) _ 5 ?_ ?_ 5 0 n w rfl (by omega) ⟨⟨A, h, fun m hm => absurd hm (Nat.not_lt_zero _), fun _ _ _ _ => rfl⟩, fun _ _ => rfl⟩
  · rintro t l v hl ⟨⟨A0, h0, hT, hA⟩, hq⟩
    left
    show ∃ s', m_X7_lays_p2 n (t + 1) v b (nI l) = _ ∧ _
    obtain ⟨v1, e1, h1, q1⟩ := h0.w8 (nI 0) (k := l) hl
    have t1 : Tb (setF A0 5 l (nI 0)) 4 5 l [] := ⟨setF_self, fun i hi => absurd hi (Nat.not_lt_zero _)⟩
    have o1 : Oth A0 (setF A0 5 l (nI 0)) l := ⟨fun j i _ b => setF_row b, fun i _ => setF_row (by decide), fun m hm => setF_col hm⟩
    obtain ⟨v2, e2, ⟨A2, es2, h2, t2, a2, m2, o2⟩, q2⟩ := m_enters (n := n) (q := 0) hn h1 hl t1 (Or.inl (by decide)) List.Pairwise.nil (by decide) (fun x hx => absurd hx List.not_mem_nil)
    rw [m_X7_lays_p2, if_neg (show ¬ (5 : Int32) ≤ nI l from nI_ge hl (by decide)), h0.g8, Option.bind_some, show (asI 0 v (b + 6) (nI l) 0) = some v1 from e1, Option.bind_some, h1.c, Option.bind_some, show (m_X7_enters n v1 b (nI l) 0) = some v2 from e2, Option.bind_some]
    have hr0 : Row A0 S := fun x hx => (hA 0 x (by decide) (by decide)).trans (hr x hx)
    have L0 : LI v b l I J A0 S 0 0 v2 := ⟨⟨A2, es2, h2, t2, a2, fun x => by
      rw [m2]
      constructor
      · rintro (g | g)
        · exact Or.inl g
        · exact absurd g List.not_mem_nil
      · rintro (g | ⟨p, q, g, -⟩)
        · exact Or.inl g
        · omega, o1.trans o2⟩, fun x hx => (q2 x hx).trans (q1 x hx)⟩
    obtain ⟨v3, e3, ⟨A3, es3, h3, t3, a3, m3, o3⟩, q3⟩ := lpk (σ := Wd) (τ := Wd) (fun t' i v => m_X7_lays_p22 n (fun w b0 b1 => m_X7_lays_p2 n t w b0 b1) t' v b (nI l) (nI i)) (fun v => m_X7_lays_p2 n t v b (nI (l + 1))) (fun i u => LI v b l I J A0 S i 0 u) (fun u => LI v b l I J A0 S 24 0 u) 24 (by
      rintro t' i u hi hL
      left
      obtain ⟨u2, e, g⟩ := m_lays30 (n := n) hn hr0 hw hl hi (k2 := fun w b0 b1 => m_X7_lays_p2 n t w b0 b1) (k22 := fun w b0 b1 b2 => m_X7_lays_p22 n (fun w b0 b1 => m_X7_lays_p2 n t w b0 b1) t' w b0 b1 b2) hL
      exact ⟨u2, by rw [m_X7_lays_p22, if_neg (show ¬ (24 : Int32) ≤ nI i from nI_ge hi (by decide)), e], g⟩) (by
      rintro t' u hL
      exact ⟨u, by rw [m_X7_lays_p22, if_pos (by decide), nI_1], hL⟩) 24 0 n v2 rfl (by omega) L0
    refine ⟨v3, e3, ⟨A3, h3, fun m hm => ?_, fun j i a b => (o3.1 j i a b).trans (hA j i a b)⟩, fun x hx => (q3 x hx).trans (hq x hx)⟩
    by_cases c : m = l
    · subst c
      have : es3 = nds S m := asc_ext a3 (nds_of hw m).1 fun x => by
        rw [m3, (nds_of hw m).2]
        exact ⟨ent2_node hw, ent2_all hw⟩
      rw [← this]
      exact t3
    · exact (hT m (by omega)).oth o3 c (nds_len hw m)
  · rintro t v ⟨⟨A0, h0, hT, hA⟩, hq⟩
    exact ⟨v, by rw [m_X7_lays_p2, if_pos (by decide)], ⟨A0, h0, hT, hA⟩, hq⟩
