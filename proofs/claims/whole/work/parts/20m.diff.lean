/-! HOW MANY NODES DIFFER -/
def com (qs rs : List Nat) : Nat := (qs.filter fun q => decide (q ∈ rs)).length
def dif (qs rs : List Nat) : Nat := qs.length + rs.length - 2 * com qs rs
theorem com_le1 {qs rs : List Nat} : com qs rs ≤ qs.length := List.length_filter_le _ _
theorem com_le2 {qs rs : List Nat} (h : Asc qs) : com qs rs ≤ rs.length := asc_len (List.Pairwise.filter _ h) fun q hq => by
  have := (List.mem_filter.mp hq).2
  exact of_decide_eq_true this
theorem com_app {qs rs : List Nat} {q : Nat} : com (qs ++ [q]) rs = com qs rs + if q ∈ rs then 1 else 0 := by
  unfold com
  rw [List.filter_append, List.length_append]
  congr 1
  by_cases h : q ∈ rs <;> simp [h]
theorem m_ldiff {n : Nat} (hn : 60 ≤ n) {w : Wd} {a b : Nat} {cs qs ds rs : List Nat} (h : LvC w a cs qs) (g : LvC w b ds rs) (hq : Asc qs) (hr : Asc rs) (hb1 : ∀ q ∈ qs, q < 2 ^ 31) (hb2 : ∀ q ∈ rs, q < 2 ^ 31) : m_X1_differences n w a b = some (nI (dif qs rs)) := by
  have h24 := h.2.2.2.2.1
  have g24 := g.2.2.2.2.1
  unfold m_X1_differences
  obtain ⟨v, e, rfl⟩ := lp (σ := Nat × Nat) (R := Int32) (fun t i s => m_X1_differences_p7 n t w a b (nI s.1) (nI s.2) (nI i)) (fun i s => s.1 = com (qs.take i) rs ∧ s.2 ≤ rs.length ∧ ∀ j, j < s.2 → ∀ m, i ≤ m → m < qs.length → rs.getD j 0 < qs.getD m 0) (fun v => v = nI (dif qs rs)) qs.length (by
    rintro t i ⟨c, k⟩ hi ⟨h1, h2, h3⟩
    change c = com (qs.take i) rs at h1
    change k ≤ rs.length at h2
    left
    show ∃ s', m_X1_differences_p7 n (t + 1) w a b (nI c) (nI k) (nI i) = _ ∧ _
    rw [m_X1_differences_p7, h.i3, Option.bind_some, if_neg (nI_ge hi (by omega))]
    refine lpk (σ := Unit) (τ := Nat × Nat) (fun t' k _ => m_X1_differences_p16 n (fun w b0 b1 b2 b3 b4 => m_X1_differences_p7 n t w b0 b1 b2 b3 b4) t' w a b (nI c) (nI k) (nI i)) (fun s => m_X1_differences_p7 n t w a b (nI s.1) (nI s.2) (nI (i + 1))) (fun k _ => ∀ j, j < k → rs.getD j 0 < qs.getD i 0) _ rs.length ?_ ?_ (rs.length - k) k n () (by omega) (by omega) (fun j hj => h3 j hj i (Nat.le_refl _) hi)
    · rintro t' k ⟨⟩ hk hI
      have bq := hb1 _ (getD_mem hi)
      have br := hb2 _ (getD_mem hk)
      rw [m_X1_differences_p16, g.i3, Option.bind_some, if_neg (nI_ge hk (by omega)), g.g2, Option.bind_some, g.sqr hk, Option.bind_some, h.g2, Option.bind_some, h.sqr hi, Option.bind_some]
      by_cases c1 : qs.getD i 0 ≤ rs.getD k 0
      · right
        rw [if_pos ((nI_leI bq br).mpr c1), m_X1_differences_p46, g.i3, Option.bind_some, if_neg (nI_ge hk (by omega)), g.g2, Option.bind_some, g.sqr hk, Option.bind_some, h.g2, Option.bind_some, h.sqr hi, Option.bind_some]
        have hfin : ∀ j, j < k → ∀ m, i + 1 ≤ m → m < qs.length → rs.getD j 0 < qs.getD m 0 := fun j hj m hm1 hm2 => by
          have := hI j hj
          have := asc_get hq (show i < m by omega) hm2
          omega
        by_cases c2 : rs.getD k 0 = qs.getD i 0
        · refine ⟨(c + 1, k), by rw [if_pos (by rw [c2]), nI_1, nI_1], ?_, Nat.le_of_lt hk, hfin⟩
          show c + 1 = _
          rw [take_s hi, com_app, if_pos (by rw [← c2]; exact getD_mem hk), h1]
        · refine ⟨(c, k), by rw [if_neg (fun q => c2 ((nI_eq br bq).mp q)), nI_1], ?_, Nat.le_of_lt hk, hfin⟩
          show c = _
          rw [take_s hi, com_app, if_neg, h1, Nat.add_zero]
          intro q
          obtain ⟨j, hj, ej⟩ := mem_getD q
          rcases Nat.lt_or_ge j k with d | d
          · have := hI j d
            omega
          · rcases Nat.lt_or_ge k j with d2 | d2
            · have := asc_get hr d2 hj
              omega
            · have : j = k := by omega
              subst this
              exact c2 ej
      · left
        refine ⟨(), by rw [if_neg (fun q => c1 ((nI_leI bq br).mp q)), nI_1], fun j hj => ?_⟩
        by_cases e : j = k
        · subst e
          omega
        · exact hI j (by omega)
    · rintro t' ⟨⟩ hI
      refine ⟨(c, rs.length), ?_, ?_, Nat.le_refl _, fun j hj m hm1 hm2 => ?_⟩
      · show m_X1_differences_p16 n _ (t' + 1) w a b (nI c) (nI rs.length) (nI i) = _
        rw [m_X1_differences_p16, g.i3, Option.bind_some, if_pos (Int32.le_refl _), m_X1_differences_p46, g.i3, Option.bind_some, if_pos (Int32.le_refl _), nI_1]
      · show c = _
        rw [take_s hi, com_app, if_neg, h1, Nat.add_zero]
        intro q
        obtain ⟨j, hj, ej⟩ := mem_getD q
        have := hI j hj
        omega
      · have := hI j hj
        have := asc_get hq (show i < m by omega) hm2
        omega) (by
    rintro t ⟨c, k⟩ ⟨h1, h2, h3⟩
    change c = com (qs.take qs.length) rs at h1
    refine ⟨_, ?_, rfl⟩
    show m_X1_differences_p7 n (t + 1) w a b (nI c) (nI k) (nI qs.length) = _
    have e1 := com_le1 (qs := qs) (rs := rs)
    have e2 := com_le2 (rs := rs) hq
    have h1' : c = com qs rs := by
      have := h1
      rw [List.take_length] at this
      exact this
    rw [m_X1_differences_p7, h.i3, Option.bind_some, if_pos (Int32.le_refl _), m_X1_differences_p79, h.i3, Option.bind_some, g.i3, Option.bind_some, nI_add, show (2 : Int32) = nI 2 from rfl, pk_mul, pk_sub (by omega), h1']
    rfl) qs.length 0 n (0, 0) (by omega) (by omega) ⟨rfl, Nat.zero_le _, fun j hj => absurd hj (Nat.not_lt_zero _)⟩
  exact e
