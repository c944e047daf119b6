/-! THE NODES OF A LEVEL, AS NUMBERS: no memory here -/
def sq (c e : Nat) : Nat := c / 4 ^ e * 4 ^ e * 8 + 6 - e
def Asc (l : List Nat) : Prop := l.Pairwise (· < ·)
def Srt (l : List Nat) : Prop := l.Pairwise (· ≤ ·)
/-- at the exponent e the two codes lie in one square, in different quadrants -/
def spl (e c d : Nat) : Prop := c / 4 ^ e = d / 4 ^ e ∧ c / 4 ^ (e - 1) ≠ d / 4 ^ (e - 1)
def isNode (cs : List Nat) (q : Nat) : Prop := q = 0 ∨ ∃ e c d, 1 ≤ e ∧ e ≤ 5 ∧ c ∈ cs ∧ d ∈ cs ∧ spl e c d ∧ q = sq c e
def spn (c d : Nat) : Nat := if c = d then 0 else if c / 4 = d / 4 then 1 else if c / 16 = d / 16 then 2 else if c / 64 = d / 64 then 3 else if c / 256 = d / 256 then 4 else if c / 1024 = d / 1024 then 5 else 6
theorem e15 {e : Nat} (h1 : 1 ≤ e) (h2 : e ≤ 5) : e = 1 ∨ e = 2 ∨ e = 3 ∨ e = 4 ∨ e = 5 := by omega
theorem spl_spn {e c d : Nat} (h1 : 1 ≤ e) (h2 : e ≤ 5) (h : spl e c d) : spn c d = e := by
  obtain ⟨a, b⟩ := h
  unfold spn
  rcases e15 h1 h2 with rfl | rfl | rfl | rfl | rfl <;> simp only [Nat.reducePow, Nat.reduceSub, Nat.pow_zero, Nat.div_one] at a b <;> (repeat' split) <;> omega
theorem asc_tail {a : Nat} {l : List Nat} (h : Asc (a :: l)) : Asc l := (List.pairwise_cons.mp h).2
theorem asc_head {a : Nat} {l : List Nat} (h : Asc (a :: l)) : ∀ q ∈ l, a < q := (List.pairwise_cons.mp h).1
theorem asc_ext : ∀ {l r : List Nat}, Asc l → Asc r → (∀ q, q ∈ l ↔ q ∈ r) → l = r
  | [], [], _, _, _ => rfl
  | [], b :: r, _, _, h => absurd ((h b).mpr List.mem_cons_self) List.not_mem_nil
  | a :: l, [], _, _, h => absurd ((h a).mp List.mem_cons_self) List.not_mem_nil
  | a :: l, b :: r, h1, h2, h => by
    have hab : a = b := by
      have x1 := (h a).mp List.mem_cons_self
      have x2 := (h b).mpr List.mem_cons_self
      rcases List.mem_cons.mp x1 with e | e
      · exact e
      · rcases List.mem_cons.mp x2 with g | g
        · exact g.symm
        · have := asc_head h2 a e
          have := asc_head h1 b g
          omega
    subst hab
    congr 1
    refine asc_ext (asc_tail h1) (asc_tail h2) fun q => ⟨fun g => ?_, fun g => ?_⟩
    · rcases List.mem_cons.mp ((h q).mp (List.mem_cons_of_mem _ g)) with e | e
      · have := asc_head h1 q g
        omega
      · exact e
    · rcases List.mem_cons.mp ((h q).mpr (List.mem_cons_of_mem _ g)) with e | e
      · have := asc_head h2 q g
        omega
      · exact e
theorem asc_len : ∀ {l r : List Nat}, Asc l → (∀ q ∈ l, q ∈ r) → l.length ≤ r.length
  | [], r, _, _ => Nat.zero_le _
  | a :: l, r, h1, h => by
    have ha : a ∈ r := h a List.mem_cons_self
    have := asc_len (l := l) (r := r.erase a) (asc_tail h1) fun q hq => by
      have := asc_head h1 q hq
      exact (List.mem_erase_of_ne (by omega)).mpr (h q (List.mem_cons_of_mem _ hq))
    rw [List.length_erase_of_mem ha] at this
    have hp : 0 < r.length := List.length_pos_of_mem ha
    rw [List.length_cons]
    omega
theorem srt_le {l : List Nat} (h : Srt l) {i j : Nat} (hij : i ≤ j) (hj : j < l.length) : l.getD i 0 ≤ l.getD j 0 := by
  rcases Nat.lt_or_ge i j with g | g
  · have := List.pairwise_iff_getElem.mp h i j (by omega) hj g
    rw [List.getD_eq_getElem?_getD, List.getD_eq_getElem?_getD, List.getElem?_eq_getElem hj, List.getElem?_eq_getElem (show i < l.length by omega)]
    exact this
  · have : i = j := by omega
    subst this
    exact Nat.le_refl _
theorem mem_getD {l : List Nat} {c : Nat} (h : c ∈ l) : ∃ i, i < l.length ∧ l.getD i 0 = c := by
  obtain ⟨i, hi, e⟩ := List.mem_iff_getElem.mp h
  exact ⟨i, hi, by rw [List.getD_eq_getElem?_getD, List.getElem?_eq_getElem hi]; exact e⟩
theorem getD_mem {l : List Nat} {i : Nat} (h : i < l.length) : l.getD i 0 ∈ l := by
  rw [List.getD_eq_getElem?_getD, List.getElem?_eq_getElem h]
  exact List.getElem_mem h
/-- between two in one square but different quadrants there are two neighbours so -/
theorem adj {cs : List Nat} (hs : Srt cs) {e : Nat} : ∀ (n i j : Nat), j = i + n → j < cs.length → spl e (cs.getD i 0) (cs.getD j 0) → ∃ k, i ≤ k ∧ k + 1 ≤ j ∧ spl e (cs.getD k 0) (cs.getD (k + 1) 0) ∧ cs.getD k 0 / 4 ^ e = cs.getD i 0 / 4 ^ e := by
  intro n
  induction n with
  | zero =>
    intro i j h1 h2 h3
    have : i = j := by omega
    subst this
    exact absurd rfl h3.2
  | succ n ih =>
    intro i j h1 h2 h3
    have hm : cs.getD (j - 1) 0 / 4 ^ e = cs.getD i 0 / 4 ^ e := by
      have a1 : cs.getD i 0 / 4 ^ e ≤ cs.getD (j - 1) 0 / 4 ^ e := Nat.div_le_div_right (srt_le hs (by omega) (by omega))
      have a2 : cs.getD (j - 1) 0 / 4 ^ e ≤ cs.getD j 0 / 4 ^ e := Nat.div_le_div_right (srt_le hs (by omega) h2)
      have := h3.1
      omega
    by_cases g : cs.getD (j - 1) 0 / 4 ^ (e - 1) = cs.getD j 0 / 4 ^ (e - 1)
    · obtain ⟨k, b1, b2, b3, b4⟩ := ih i (j - 1) (by omega) (by omega) ⟨hm.symm, fun q => h3.2 (q.trans g)⟩
      exact ⟨k, b1, by omega, b3, b4⟩
    · refine ⟨j - 1, by omega, by omega, ?_, hm⟩
      rw [show j - 1 + 1 = j by omega]
      exact ⟨hm.trans h3.1, g⟩
theorem sq_cong {e c d : Nat} (h : c / 4 ^ e = d / 4 ^ e) : sq c e = sq d e := by unfold sq; rw [h]
theorem node_adj {cs : List Nat} (hs : Srt cs) {q : Nat} (h : isNode cs q) : q = 0 ∨ ∃ k, k + 1 < cs.length ∧ q = sq (cs.getD k 0) (spn (cs.getD k 0) (cs.getD (k + 1) 0)) := by
  rcases h with h | ⟨e, c, d, h1, h2, hc, hd, hs1, rfl⟩
  · exact Or.inl h
  · right
    obtain ⟨i, hi, ei⟩ := mem_getD hc
    obtain ⟨j, hj, ej⟩ := mem_getD hd
    subst ei ej
    rcases Nat.lt_or_ge i j with g | g
    · obtain ⟨k, b1, b2, b3, b4⟩ := adj hs (j - i) i j (by omega) hj hs1
      exact ⟨k, by omega, by rw [spl_spn h1 h2 b3]; exact sq_cong b4.symm⟩
    · obtain ⟨k, b1, b2, b3, b4⟩ := adj hs (i - j) j i (by omega) hi ⟨hs1.1.symm, fun q => hs1.2 q.symm⟩
      exact ⟨k, by omega, by rw [spl_spn h1 h2 b3]; exact sq_cong (hs1.1.trans b4.symm)⟩
/-- no more nodes than points (or the whole alone) -/
theorem node_len {cs qs : List Nat} (hs : Srt cs) (ha : Asc qs) (h : ∀ q ∈ qs, isNode cs q) : qs.length ≤ max 1 cs.length := by
  have := asc_len (r := 0 :: (List.range (cs.length - 1)).map fun k => sq (cs.getD k 0) (spn (cs.getD k 0) (cs.getD (k + 1) 0))) ha fun q hq => by
    rcases node_adj hs (h q hq) with e | ⟨k, hk, e⟩
    · rw [e]
      exact List.mem_cons_self
    · exact List.mem_cons_of_mem _ (List.mem_map.mpr ⟨k, List.mem_range.mpr (by omega), e.symm⟩)
  rw [List.length_cons, List.length_map, List.length_range] at this
  omega
theorem node_mono {cs ds : List Nat} (h : ∀ c ∈ cs, c ∈ ds) {q : Nat} (g : isNode cs q) : isNode ds q := by
  rcases g with g | ⟨e, c, d, h1, h2, hc, hd, h3, h4⟩
  · exact Or.inl g
  · exact Or.inr ⟨e, c, d, h1, h2, h c hc, h d hd, h3, h4⟩
