/-! THE LOOPS OF lays -/
theorem ins_ex {es : List Nat} {x : Nat} (h : Asc es) (hne : x ∉ es) : ∃ es', Asc es' ∧ List.Perm es' (x :: es) := by
  obtain ⟨m, hm, hl⟩ := pk_least (fun m => es.length ≤ m ∨ x < es.getD m 0) ⟨es.length, Or.inl (Nat.le_refl _)⟩
  have hm2 : m ≤ es.length := Nat.not_lt.mp fun g => hl es.length g (Or.inl (Nat.le_refl _))
  refine ⟨insAt es m x, insAt_asc h hm2 (fun i hi => ?_) (fun i hi hi2 => ?_), insAt_perm⟩
  · have g := hl i hi
    have g1 : es.getD i 0 ∈ es := getD_mem (by omega)
    have g2 : es.getD i 0 ≠ x := fun q => hne (q ▸ g1)
    have g3 : ¬ x < es.getD i 0 := fun q => g (Or.inr q)
    omega
  · have g3 : x < es.getD m 0 := hm.resolve_left (by omega)
    rcases Nat.lt_or_ge m i with y | y
    · have := asc_get h y hi2
      omega
    · have : i = m := by omega
      rw [this]
      exact g3
theorem nd_room {S : Nat → Int32} {l q : Nat} {es : List Nat} (ha : Asc es) (h : ∀ x ∈ es, isNode (cdS S l) x) (hq : isNode (cdS S l) q) : es.length < 24 ∨ q ∈ es ∧ es.length ≤ 24 := by
  by_cases c : q ∈ es
  · exact Or.inr ⟨c, nd_len ha h⟩
  · left
    obtain ⟨es', a1, a2⟩ := ins_ex ha c
    have := nd_len (S := S) (l := l) a1 fun x hx => by
      rcases List.mem_cons.mp (a2.mem_iff.mp hx) with e | e
      · rw [e]; exact hq
      · exact h x e
    rw [a2.length_eq, List.length_cons] at this
    omega
def LI (w : Wd) (b l : Nat) (I : Nat → Int32) (J : Nat → Int64) (A : Rw) (S : Nat → Int32) (i j : Nat) (v : Wd) : Prop :=
  (∃ A' es, MoC v b I J A' ∧ Tb A' 4 5 l es ∧ Asc es ∧ (∀ x, x ∈ es ↔ ent2 S l i j x) ∧ Oth A A' l) ∧ Fr w v b
theorem LI.conv {w v : Wd} {b l i j i' j' : Nat} {I : Nat → Int32} {J : Nat → Int64} {A : Rw} {S : Nat → Int32} (h : LI w b l I J A S i j v) (hc : ∀ x, ent2 S l i j x ↔ ent2 S l i' j' x) : LI w b l I J A S i' j' v := by
  obtain ⟨⟨A', es, h1, h2, h3, h4, h5⟩, h6⟩ := h
  exact ⟨⟨A', es, h1, h2, h3, fun x => (h4 x).trans (hc x), h5⟩, h6⟩
theorem m_lays30 {n : Nat} (hn : 60 ≤ n) {w : Wd} {b l i : Nat} {I : Nat → Int32} {J : Nat → Int64} {A : Rw} {S : Nat → Int32} (hr : Row A S) (hw : WF S) (hl : l < 5) (hi : i < 24) {k2 : Wd → Nat → Int32 → Option Wd} {k22 : Wd → Nat → Int32 → Int32 → Option Wd} {v : Wd} (h : LI w b l I J A S i 0 v) :
    ∃ v', m_X7_lays_p30 n k2 k22 n v b (nI l) (nI i) 0 = k22 v' b (nI l) (nI (i + 1)) ∧ LI w b l I J A S (i + 1) 0 v' := by
  refine lpk (σ := Wd) (τ := Wd) (fun t j v => m_X7_lays_p30 n k2 k22 t v b (nI l) (nI i) (nI j)) (fun v => k22 v b (nI l) (nI (i + 1))) (fun j v => LI w b l I J A S i j v) _ i ?_ ?_ i 0 n v (by omega) (by omega) h
  · rintro t j v hj hL
    have hL0 := hL
    obtain ⟨⟨A', es, h1, h2, h3, h4, h5⟩, h6⟩ := hL
    have hr' : Row A' S := fun x hx => (h5.1 0 x (by decide) (by decide)).trans (hr x hx)
    rw [m_X7_lays_p30, if_neg (nI_ge hj (by omega)), h1.c, Option.bind_some, m_on (by omega) h1 hr' hw hi hl, Option.bind_some]
    by_cases c : i ∈ onS S l
    · rw [if_pos c, if_neg (by decide), Option.bind_some, m_place7 (by omega) h1 hr' hw hi, Option.bind_some, Option.bind_some, m_on (by omega) h1 hr' hw (by omega) hl, Option.bind_some]
      left
      by_cases d : j ∈ onS S l
      · rw [if_pos d, if_neg (by decide), Option.bind_some, m_place7 (by omega) h1 hr' hw (by omega), Option.bind_some]
        have ci := cdS_12 hw _ (cdS_mem c)
        have cj := cdS_12 hw _ (cdS_mem d)
        by_cases e : codeS S i = codeS S j
        · refine ⟨v, by rw [if_pos (by rw [e]), nI_1], hL0.conv fun x => ⟨fun g => ?_, fun g => ?_⟩⟩
          · rcases g with g | ⟨p, q, g1, g2⟩
            · exact Or.inl g
            · exact Or.inr ⟨p, q, by omega, g2⟩
          · rcases g with g | ⟨p, q, g1, g2, g3, g4, g5, g6⟩
            · exact Or.inl g
            · refine Or.inr ⟨p, q, ?_, g2, g3, g4, g5, g6⟩
              rcases g1 with g1 | ⟨rfl, g1⟩
              · exact Or.inl g1
              · by_cases y : q = j
                · subst y
                  exact absurd e g5
                · exact Or.inr ⟨rfl, by omega⟩
        · have hnd := sq_pair_node (cdS_mem c) (cdS_mem d) ci cj e
          have hlt := node_lt (cdS_12 hw) hnd
          have hall : ∀ x ∈ es, isNode (cdS S l) x := fun x hx => ent2_node hw ((h4 x).mp hx)
          obtain ⟨v2, e2, ⟨A2, es2, k1, k3, k4, k5, k6⟩, q2⟩ := m_enters (n := n) hn h1 hl h2 (nd_room h3 hall hnd) h3 (by omega) (fun x hx => by have := node_lt (cdS_12 hw) (hall x hx); omega)
          refine ⟨v2, ?_, ⟨A2, es2, k1, k3, k4, fun x => ?_, h5.trans k6⟩, fun x hx => (q2 x hx).trans (h6 x hx)⟩
          · rw [if_neg (fun y => e ((nI_eq (lt31 ci) (lt31 cj)).mp y)), m_spanOf (by omega) ci cj, Option.bind_some, Option.bind_some, m_sqpair ci, e2, Option.bind_some, nI_1]
          · rw [k5, h4]
            constructor
            · rintro (g | g)
              · exact Or.inr ⟨i, j, Or.inr ⟨rfl, Nat.lt_succ_self _⟩, hj, c, d, e, g⟩
              · rcases g with g | ⟨p, q, g1, g2⟩
                · exact Or.inl g
                · exact Or.inr ⟨p, q, by omega, g2⟩
            · rintro (g | ⟨p, q, g1, g2, g3, g4, g5, g6⟩)
              · exact Or.inr (Or.inl g)
              · rcases g1 with g1 | ⟨rfl, g1⟩
                · exact Or.inr (Or.inr ⟨p, q, Or.inl g1, g2, g3, g4, g5, g6⟩)
                · by_cases y : q = j
                  · subst y
                    exact Or.inl g6
                  · exact Or.inr (Or.inr ⟨p, q, Or.inr ⟨rfl, by omega⟩, g2, g3, g4, g5, g6⟩)
      · refine ⟨v, by rw [if_neg d, if_pos rfl, if_pos rfl, nI_1], hL0.conv fun x => ⟨fun g => ?_, fun g => ?_⟩⟩
        · rcases g with g | ⟨p, q, g1, g2⟩
          · exact Or.inl g
          · exact Or.inr ⟨p, q, by omega, g2⟩
        · rcases g with g | ⟨p, q, g1, g2, g3, g4, g5, g6⟩
          · exact Or.inl g
          · refine Or.inr ⟨p, q, ?_, g2, g3, g4, g5, g6⟩
            rcases g1 with g1 | ⟨rfl, g1⟩
            · exact Or.inl g1
            · by_cases y : q = j
              · subst y
                exact absurd g4 d
              · exact Or.inr ⟨rfl, by omega⟩
    · right
      refine ⟨v, by rw [if_neg c, if_pos rfl, nI_1], hL0.conv fun x => ⟨fun g => ?_, fun g => ?_⟩⟩
      · rcases g with g | ⟨p, q, g1, g2⟩
        · exact Or.inl g
        · exact Or.inr ⟨p, q, by omega, g2⟩
      · rcases g with g | ⟨p, q, g1, g2, g3, g4⟩
        · exact Or.inl g
        · refine Or.inr ⟨p, q, ?_, g2, g3, g4⟩
          rcases g1 with g1 | ⟨rfl, g1⟩
          · rcases Nat.lt_or_ge p i with y | y
            · exact Or.inl y
            · have : p = i := by omega
              subst this
              exact absurd g3 c
          · omega
  · rintro t v hL
    refine ⟨v, by rw [m_X7_lays_p30, if_pos (Int32.le_refl _), nI_1], hL.conv fun x => ⟨fun g => ?_, fun g => ?_⟩⟩
    · rcases g with g | ⟨p, q, g1, g2⟩
      · exact Or.inl g
      · exact Or.inr ⟨p, q, by omega, g2⟩
    · rcases g with g | ⟨p, q, g1, g2, g3⟩
      · exact Or.inl g
      · exact Or.inr ⟨p, q, by omega, g2, g3⟩
