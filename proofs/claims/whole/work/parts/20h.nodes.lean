/-! THE CLASS FINDS THE NODES OF A LEVEL -/
def upto (cs : List Nat) (k e : Nat) (q : Nat) : Prop := q = 0 ∨ ∃ i f, (i < k ∨ i = k ∧ e < f) ∧ i < cs.length ∧ 1 ≤ f ∧ f ≤ 5 ∧ beg cs i f ∧ brs cs i f ∧ q = sq (cs.getD i 0) f
theorem sq_lt {x y e f : Nat} (h1 : 1 ≤ e) (h2 : e ≤ 5) (h3 : 1 ≤ f) (h4 : f ≤ 5) (h : x / 4 ^ f < y / 4 ^ f) : sq x e < sq y f := by
  unfold sq
  have a1 : x / 4 ^ e * 4 ^ e ≤ x := Nat.div_mul_le_self _ _
  have a2 : (x / 4 ^ f + 1) * 4 ^ f ≤ y / 4 ^ f * 4 ^ f := Nat.mul_le_mul_right _ h
  have a3 : x < (x / 4 ^ f + 1) * 4 ^ f := by
    have := Nat.lt_div_mul_add (a := x) (b := 4 ^ f) (Nat.pow_pos (by decide))
    rw [Nat.add_mul, Nat.one_mul]
    exact this
  omega
theorem sq_lt2 {x e f : Nat} (h1 : 1 ≤ e) (h2 : e < f) (h4 : f ≤ 5) : sq x f < sq x e := by
  unfold sq
  have h : x / 4 ^ f * 4 ^ f ≤ x / 4 ^ e * 4 ^ e := by
    rcases e15 h1 (by omega) with rfl | rfl | rfl | rfl | rfl <;> rcases e15 (e := f) (by omega) h4 with rfl | rfl | rfl | rfl | rfl <;> simp only [Nat.reducePow] <;> omega
  omega
theorem sq_pos {x e : Nat} (h : e ≤ 5) : 0 < sq x e := by unfold sq; omega
theorem upto_node {cs : List Nat} {k e q : Nat} (h : upto cs k e q) : isNode cs q := by
  rcases h with h | ⟨i, f, h1, h2, h3, h4, h5, ⟨j, j1, j2, j3⟩, h7⟩
  · exact Or.inl h
  · exact Or.inr ⟨f, _, _, h3, h4, getD_mem h2, getD_mem j2, j3, h7⟩
theorem upto_lt {cs : List Nat} (hs : Srt cs) {k e q : Nat} (hk : k < cs.length) (h1 : 1 ≤ e) (h2 : e ≤ 5) (hb : beg cs k e) (h : upto cs k e q) : q < sq (cs.getD k 0) e := by
  rcases h with h | ⟨i, f, h3, h4, h5, h6, -, -, h7⟩
  · rw [h]
    exact sq_pos h2
  · rw [h7]
    rcases h3 with h3 | ⟨rfl, h3⟩
    · refine sq_lt h5 h6 h1 h2 ?_
      have hne : cs.getD (k - 1) 0 / 4 ^ e ≠ cs.getD k 0 / 4 ^ e := hb.resolve_left (by omega)
      have b1 : cs.getD i 0 / 4 ^ e ≤ cs.getD (k - 1) 0 / 4 ^ e := Nat.div_le_div_right (srt_le hs (by omega) (by omega))
      have b2 : cs.getD (k - 1) 0 / 4 ^ e ≤ cs.getD k 0 / 4 ^ e := Nat.div_le_div_right (srt_le hs (by omega) hk)
      omega
    · exact sq_lt2 h1 h3 h6
theorem asc_app {l : List Nat} {x : Nat} (h : Asc l) (hx : ∀ q ∈ l, q < x) : Asc (l ++ [x]) :=
  List.pairwise_append.mpr ⟨h, List.pairwise_singleton _ _, fun a ha b hb => by rw [List.mem_singleton.mp hb]; exact hx a ha⟩
def Upto (cs qs : List Nat) (k e : Nat) : Prop := Asc qs ∧ ∀ q, q ∈ qs ↔ upto cs k e q
theorem Upto.len {cs qs : List Nat} {k e : Nat} (hs : Srt cs) (h : Upto cs qs k e) : qs.length ≤ max 1 cs.length := node_len hs h.1 fun q hq => upto_node ((h.2 q).mp hq)
theorem Upto.skip {cs qs : List Nat} {k e : Nat} (h : Upto cs qs k (e + 1)) (hn : ¬ (beg cs k (e + 1) ∧ brs cs k (e + 1))) : Upto cs qs k e := by
  refine ⟨h.1, fun q => (h.2 q).trans ⟨fun g => ?_, fun g => ?_⟩⟩
  · rcases g with g | ⟨i, f, g1, g2⟩
    · exact Or.inl g
    · exact Or.inr ⟨i, f, by omega, g2⟩
  · rcases g with g | ⟨i, f, g1, g2, g3, g4, g5, g6, g7⟩
    · exact Or.inl g
    · refine Or.inr ⟨i, f, ?_, g2, g3, g4, g5, g6, g7⟩
      rcases g1 with g1 | ⟨rfl, g1⟩
      · exact Or.inl g1
      · refine Or.inr ⟨rfl, ?_⟩
        rcases Nat.lt_or_ge (e + 1) f with q | q
        · exact q
        · have : f = e + 1 := by omega
          subst this
          exact absurd ⟨g5, g6⟩ hn
theorem Upto.add {cs qs : List Nat} {k e : Nat} (hs : Srt cs) (hk : k < cs.length) (he : e + 1 ≤ 5) (h : Upto cs qs k (e + 1)) (hb : beg cs k (e + 1)) (hr : brs cs k (e + 1)) : Upto cs (qs ++ [sq (cs.getD k 0) (e + 1)]) k e := by
  refine ⟨asc_app h.1 fun q hq => upto_lt hs hk (by omega) he hb ((h.2 q).mp hq), fun q => ?_⟩
  rw [List.mem_append, List.mem_singleton, h.2]
  constructor
  · rintro (g | g)
    · rcases g with g | ⟨i, f, g1, g2⟩
      · exact Or.inl g
      · exact Or.inr ⟨i, f, by omega, g2⟩
    · exact Or.inr ⟨k, e + 1, Or.inr ⟨rfl, Nat.lt_succ_self _⟩, hk, by omega, he, hb, hr, g⟩
  · rintro (g | ⟨i, f, g1, g2, g3, g4, g5, g6, g7⟩)
    · exact Or.inl (Or.inl g)
    · rcases g1 with g1 | ⟨rfl, g1⟩
      · exact Or.inl (Or.inr ⟨i, f, Or.inl g1, g2, g3, g4, g5, g6, g7⟩)
      · rcases Nat.lt_or_ge (e + 1) f with q | q
        · exact Or.inl (Or.inr ⟨i, f, Or.inr ⟨rfl, q⟩, g2, g3, g4, g5, g6, g7⟩)
        · have : f = e + 1 := by omega
          subst this
          exact Or.inr g7
theorem Upto.next {cs qs : List Nat} {k : Nat} (h : Upto cs qs k 0) : Upto cs qs (k + 1) 5 := by
  refine ⟨h.1, fun q => (h.2 q).trans ⟨fun g => ?_, fun g => ?_⟩⟩
  · rcases g with g | ⟨i, f, g1, g2⟩
    · exact Or.inl g
    · exact Or.inr ⟨i, f, by omega, g2⟩
  · rcases g with g | ⟨i, f, g1, g2, g3, g4, g5⟩
    · exact Or.inl g
    · exact Or.inr ⟨i, f, by omega, g2, g3, g4, g5⟩
theorem Upto.start {cs : List Nat} : Upto cs [0] 0 5 := by
  refine ⟨List.pairwise_singleton _ _, fun q => ?_⟩
  rw [List.mem_singleton]
  refine ⟨fun h => Or.inl h, fun h => ?_⟩
  rcases h with h | ⟨i, f, g1, g2, g3, g4, g5⟩
  · exact h
  · omega
/-- all nodes, and no others -/
def NodesOf (cs qs : List Nat) : Prop := Asc qs ∧ ∀ q, q ∈ qs ↔ isNode cs q
theorem Upto.done {cs qs : List Nat} (hs : Srt cs) (h : Upto cs qs cs.length 5) : NodesOf cs qs := by
  refine ⟨h.1, fun q => (h.2 q).trans ⟨upto_node, fun g => ?_⟩⟩
  rcases g with g | ⟨e, c, d, h1, h2, hc, hd, hsp, rfl⟩
  · exact Or.inl g
  · obtain ⟨i, hi, ei⟩ := mem_getD hc
    obtain ⟨j, hj, ej⟩ := mem_getD hd
    subst ei ej
    obtain ⟨k, ⟨hk, hk2⟩, hl⟩ := pk_least (fun k => k < cs.length ∧ cs.getD k 0 / 4 ^ e = cs.getD i 0 / 4 ^ e) ⟨i, hi, rfl⟩
    have hki : k ≤ i := Nat.not_lt.mp fun g => hl i g ⟨hi, rfl⟩
    have hkj : k ≤ j := Nat.not_lt.mp fun g => hl j g ⟨hj, hsp.1.symm⟩
    have hb : beg cs k e := by
      by_cases hz : k = 0
      · exact Or.inl hz
      · exact Or.inr fun g => hl (k - 1) (by omega) ⟨by omega, g.trans hk2⟩
    have hr : brs cs k e := by
      by_cases g : cs.getD k 0 / 4 ^ (e - 1) = cs.getD i 0 / 4 ^ (e - 1)
      · refine ⟨j, ?_, hj, hk2.trans hsp.1, fun q => hsp.2 (g.symm.trans q)⟩
        rcases Nat.lt_or_ge k j with q | q
        · exact q
        · have : k = j := by omega
          subst this
          exact absurd g.symm hsp.2
      · refine ⟨i, ?_, hi, hk2, g⟩
        rcases Nat.lt_or_ge k i with q | q
        · exact q
        · have : k = i := by omega
          subst this
          exact absurd rfl g
    exact Or.inr ⟨k, e, Or.inl hk, hk, h1, h2, hb, hr, (sq_cong hk2).symm⟩
theorem m_around {c e : Nat} (hc : c < 4096) (he : e ≤ 5) : m_X3_around (nI c) (nI e) = nI (sq c e) := by
  unfold m_X3_around sq
  have h : c / 4 ^ e * 4 ^ e ≤ c := Nat.div_mul_le_self _ _
  rw [shr2 (lt31 hc) (by omega), shl2 (by omega) (by omega), show (8 : Int32) = nI 8 from rfl, pk_mul, show (6 : Int32) = nI 6 from rfl, nI_add, pk_sub (by omega)]
theorem NodesOf.z {cs qs : List Nat} {k e : Nat} (h : Upto cs qs k e) : 0 < qs.length ∧ qs.getD 0 0 = 0 := by
  have h0 := (h.2 0).mpr (Or.inl rfl)
  have hp := List.length_pos_of_mem h0
  refine ⟨hp, ?_⟩
  obtain ⟨i, hi, e0⟩ := mem_getD h0
  have := srt_le (l := qs) (h.1.imp Nat.le_of_lt) (Nat.zero_le i) hi
  omega
theorem m_find {n : Nat} (hn : 60 ≤ n) {w : Wd} {a : Nat} {cs : List Nat} (h : LvC w a cs [0]) (hc : C12 cs) (hs : Srt cs) : ∃ w', m_X1_findNodes n w a = some w' ∧ (∃ qs, LvC w' a cs qs ∧ NodesOf cs qs) ∧ Fr2 w w' a := by
  have h24 := h.2.2.2.1
  unfold m_X1_findNodes
  refine lp (σ := Wd) (fun t k w => m_X1_findNodes_p2 n t w a (nI k)) (fun k v => (∃ qs, LvC v a cs qs ∧ Upto cs qs k 5) ∧ Fr2 w v a) _ cs.length ?_ ?_ cs.length 0 n w (by omega) (by omega) ⟨⟨_, h, Upto.start⟩, fun _ _ => rfl⟩
  · rintro t k v hk ⟨⟨qs, h0, hu⟩, hq⟩
    left
    show ∃ s', m_X1_findNodes_p2 n (t + 1) v a (nI k) = _ ∧ _
    rw [m_X1_findNodes_p2, h0.i1, Option.bind_some, if_neg (nI_ge hk (by omega))]
    have inner : ∀ (e : Nat), e ≤ 5 → ∀ (u : Nat) (v1 : Wd) (qs : List Nat), e < u → LvC v1 a cs qs → Upto cs qs k e → Fr2 w v1 a → ∃ s', m_X1_findNodes_p12 n (fun w b0 b1 => m_X1_findNodes_p2 n t w b0 b1) u v1 a (nI k) (nI e) = m_X1_findNodes_p2 n t s' a (nI (k + 1)) ∧ (∃ qs, LvC s' a cs qs ∧ Upto cs qs (k + 1) 5) ∧ Fr2 w s' a := by
      intro e
      induction e with
      | zero =>
        intro _ u v1 qs hu0 g1 g2 g3
        obtain ⟨u, rfl⟩ : ∃ x, u = x + 1 := ⟨u - 1, by omega⟩
        exact ⟨v1, by rw [m_X1_findNodes_p12, if_pos (show nI 0 ≤ 0 from Int32.le_refl _), nI_1], ⟨qs, g1, g2.next⟩, g3⟩
      | succ e ih =>
        intro he u v1 qs hu0 g1 g2 g3
        obtain ⟨u, rfl⟩ : ∃ x, u = x + 1 := ⟨u - 1, by omega⟩
        obtain ⟨x1, e1, r1⟩ := m_begins (n := n) g1 hc hk he
        rw [m_X1_findNodes_p12, if_neg (nI_nle (Nat.succ_pos _) (by omega)), g1.c, Option.bind_some, e1, Option.bind_some, pk_m1]
        rcases r1 with ⟨rfl, hb⟩ | ⟨rfl, hb⟩
        · rw [if_neg (by decide), Option.bind_some]
          obtain ⟨x2, e2, r2⟩ := m_branches (n := n) (by omega) g1 hc hs hk (Nat.succ_pos e) he
          rw [e2, Option.bind_some]
          rcases r2 with ⟨rfl, hr⟩ | ⟨rfl, hr⟩
          · have g4 := g2.add hs hk he hb hr
            have hl := g4.len hs
            rw [List.length_append, List.length_cons, List.length_nil] at hl
            obtain ⟨v2, e3, g5, q2⟩ := m_keep (n := n) g1 (x := sq (cs.getD k 0) (e + 1)) (by omega)
            rw [if_neg (by decide), g1.g0, Option.bind_some, g1.cd hk, Option.bind_some, Option.bind_some, m_around (hc _ (getD_mem hk)) he, e3, Option.bind_some]
            exact ih (by omega) u v2 _ (by omega) g5 g4 fun q hq1 => (q2 q hq1).trans (g3 q hq1)
          · rw [if_pos rfl]
            exact ih (by omega) u v1 qs (by omega) g1 (g2.skip fun q => hr q.2) g3
        · rw [if_pos rfl]
          exact ih (by omega) u v1 qs (by omega) g1 (g2.skip fun q => hb q.1) g3
    exact inner 5 (Nat.le_refl _) n v qs (by omega) h0 hu hq
  · rintro t v ⟨⟨qs, h0, hu⟩, hq⟩
    exact ⟨v, by rw [m_X1_findNodes_p2, h0.i1, Option.bind_some, if_pos (Int32.le_refl _)], ⟨qs, h0, hu.done hs⟩, hq⟩
