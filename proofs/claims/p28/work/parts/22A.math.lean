section
/-! LEVELS: squares that hold codes, quadrants, children: no memory here (but for the small functions of numbers) -/
theorem nx_xor (a b : Nat) : nI a ^^^ nI b = nI (a ^^^ b) := by
  apply Int32.toBitVec_inj.1
  show BitVec.ofNat 32 a ^^^ BitVec.ofNat 32 b = BitVec.ofNat 32 (a ^^^ b)
  apply BitVec.eq_of_getLsbD_eq
  intro i hi
  simp [hi]
def hB (q c : Nat) : Bool := decide (c / 4 ^ sqE q = q / 8 / 4 ^ sqE q)
theorem xor_div {c d e : Nat} : (c ^^^ d) / 4 ^ e = 0 ↔ c / 4 ^ e = d / 4 ^ e := by
  rw [← p4, ← Nat.shiftRight_eq_div_pow, ← Nat.shiftRight_eq_div_pow, ← Nat.shiftRight_eq_div_pow, Nat.shiftRight_xor_distrib]
  constructor
  · intro h
    apply Nat.eq_of_testBit_eq
    intro i
    have := congrArg (fun x => x.testBit i) h
    simp only [Nat.testBit_xor, Nat.zero_testBit] at this
    revert this
    cases (c >>> (2 * e)).testBit i <;> cases (d >>> (2 * e)).testBit i <;> simp
  · intro h
    rw [h, Nat.xor_self]
theorem xor_lt {c d : Nat} (hc : c < 2 ^ 31) (hd : d < 2 ^ 31) : c ^^^ d < 2 ^ 31 := Nat.xor_lt_two_pow hc hd
theorem m_holds {q c : Nat} (hq : q < 2 ^ 31) (h6 : q % 8 ≤ 6) (hc : c < 2 ^ 31) : m_X3_holds (nI q) (nI c) = if hB q c then 1 else 0 := by
  unfold m_X3_holds
  rw [sq_corner hq, sq_exp hq h6, nx_xor, shr2 (xor_lt hc (div_lt31 hq)) (sqE_le q)]
  by_cases h : c / 4 ^ sqE q = q / 8 / 4 ^ sqE q
  · rw [if_pos (by rw [xor_div.mpr h]; rfl), show hB q c = true from decide_eq_true h, if_pos rfl]
  · rw [if_neg (show ¬ nI ((c ^^^ q / 8) / 4 ^ sqE q) = 0 from fun z => h (xor_div.mp ((nI_eq (b := 0) (div_lt31 (xor_lt hc (div_lt31 hq))) (by decide)).mp z))), show hB q c = false from decide_eq_false h, if_neg (by decide)]
theorem m_quad {q c : Nat} (hq : q < 2 ^ 31) (h6 : q % 8 ≤ 6) (h0 : 1 ≤ sqE q) (hc : c < 2 ^ 31) : m_X3_quadrant (nI q) (nI c) = nI (c / 4 ^ (sqE q - 1) % 4) := by
  unfold m_X3_quadrant
  rw [sq_exp hq h6, shr2m hc h0 (sqE_le q)]
  exact pk_andN (Nat.lt_trans (div_lt31 hc) (by decide)) 2 rfl
/-! squares by corner and exponent -/
theorem sq_mod {c e : Nat} (he : e ≤ 6) : sq c e % 8 = 6 - e := by unfold sq; omega
theorem sq_cor {c e : Nat} (he : e ≤ 6) : sq c e / 8 = c / 4 ^ e * 4 ^ e := by unfold sq; omega
theorem sq_e {c e : Nat} (he : e ≤ 6) : sqE (sq c e) = e := by
  unfold sqE
  rw [sq_mod he]
  omega
theorem sq_hB {c d e : Nat} (he : e ≤ 6) : hB (sq c e) d = decide (d / 4 ^ e = c / 4 ^ e) := by
  unfold hB
  rw [sq_e he, sq_cor he, Nat.mul_div_cancel _ (Nat.pow_pos (by decide))]
theorem node_ex {cs : List Nat} (hc : C12 cs) {q : Nat} (h : isNode cs q) : ∃ c e, c < 4096 ∧ 1 ≤ e ∧ e ≤ 6 ∧ q = sq c e ∧ (q = 0 ∨ e ≤ 5 ∧ c ∈ cs ∧ ∃ d, d ∈ cs ∧ spl e c d) := by
  rcases h with h | ⟨e, c, d, h1, h2, h3, h4, h5, rfl⟩
  · exact ⟨0, 6, by decide, by decide, by decide, by rw [h]; decide, Or.inl h⟩
  · exact ⟨c, e, hc c h3, h1, by omega, rfl, Or.inr ⟨h2, h3, d, h4, h5⟩⟩
theorem node_m {cs : List Nat} (hc : C12 cs) {q : Nat} (h : isNode cs q) : q < 40000 ∧ q % 8 ≤ 6 ∧ 1 ≤ sqE q ∧ q / 8 < 4096 := by
  obtain ⟨c, e, h1, h2, h3, rfl, -⟩ := node_ex hc h
  have : c / 4 ^ e * 4 ^ e ≤ c := Nat.div_mul_le_self _ _
  exact ⟨node_lt hc h, by rw [sq_mod h3]; omega, by rw [sq_e h3]; exact h2, by rw [sq_cor h3]; omega⟩
theorem dv_up {a b i j : Nat} (h : a / 4 ^ i = b / 4 ^ i) (hij : i ≤ j) : a / 4 ^ j = b / 4 ^ j := by
  obtain ⟨k, rfl⟩ : ∃ k, j = i + k := ⟨j - i, by omega⟩
  rw [Nat.pow_add, ← Nat.div_div_eq_div_mul, ← Nat.div_div_eq_div_mul, h]
/-! the codes in a quadrant -/
def inQ (q d c : Nat) : Bool := decide (c / 4 ^ (sqE q - 1) = q / 8 / 4 ^ (sqE q - 1) + d)
theorem inQ_sq {c0 e d c : Nat} (h1 : 1 ≤ e) (he : e ≤ 6) : inQ (sq c0 e) d c = decide (c / 4 ^ (e - 1) = c0 / 4 ^ e * 4 + d) := by
  unfold inQ
  rw [sq_e he, sq_cor he]
  have : c0 / 4 ^ e * 4 ^ e / 4 ^ (e - 1) = c0 / 4 ^ e * 4 := by
    obtain ⟨k, rfl⟩ : ∃ k, e = k + 1 := ⟨e - 1, by omega⟩
    rw [Nat.add_sub_cancel, Nat.pow_succ (m := k), Nat.mul_comm (4 ^ k) 4, ← Nat.mul_assoc, Nat.mul_div_cancel _ (Nat.pow_pos (by decide)), Nat.mul_comm 4 (4 ^ k)]
  rw [this]
theorem dv_s {c e : Nat} (h1 : 1 ≤ e) : c / 4 ^ e = c / 4 ^ (e - 1) / 4 := by
  obtain ⟨k, rfl⟩ : ∃ k, e = k + 1 := ⟨e - 1, by omega⟩
  rw [Nat.add_sub_cancel, Nat.pow_succ, Nat.div_div_eq_div_mul]
/-- the class's test: held, and in the quadrant -/
theorem inQ_hB {c0 e d c : Nat} (h1 : 1 ≤ e) (he : e ≤ 6) (hd : d < 4) : inQ (sq c0 e) d c = (hB (sq c0 e) c && decide (c / 4 ^ (e - 1) % 4 = d)) := by
  rw [inQ_sq h1 he, sq_hB he, dv_s (c := c) h1]
  by_cases h : c / 4 ^ (e - 1) = c0 / 4 ^ e * 4 + d
  · rw [decide_eq_true h, decide_eq_true (show c / 4 ^ (e - 1) / 4 = c0 / 4 ^ e by omega), decide_eq_true (show c / 4 ^ (e - 1) % 4 = d by omega)]
    rfl
  · rw [decide_eq_false h]
    by_cases g : c / 4 ^ (e - 1) / 4 = c0 / 4 ^ e
    · rw [decide_eq_true g, decide_eq_false (show ¬ c / 4 ^ (e - 1) % 4 = d by omega)]
      rfl
    · rw [decide_eq_false g]
      rfl
def mnL : List Nat → Nat
  | [] => 4096
  | a :: l => min a (mnL l)
def mxL : List Nat → Nat
  | [] => 0
  | a :: l => max a (mxL l)
theorem mnL_perm {l m : List Nat} (h : l.Perm m) : mnL l = mnL m := by
  induction h with
  | nil => rfl
  | cons x _ ih => simp only [mnL, ih]
  | swap x y l => simp only [mnL]; omega
  | trans _ _ h1 h2 => exact h1.trans h2
theorem mxL_perm {l m : List Nat} (h : l.Perm m) : mxL l = mxL m := by
  induction h with
  | nil => rfl
  | cons x _ ih => simp only [mxL, ih]
  | swap x y l => simp only [mxL]; omega
  | trans _ _ h1 h2 => exact h1.trans h2
theorem mnL_app {l : List Nat} {x : Nat} (hx : x ≤ 4096) : mnL (l ++ [x]) = min (mnL l) x := by
  induction l with
  | nil => simp only [List.nil_append, mnL]; omega
  | cons a l ih => simp only [List.cons_append, mnL, ih]; omega
theorem mxL_app {l : List Nat} {x : Nat} : mxL (l ++ [x]) = max (mxL l) x := by
  induction l with
  | nil => simp only [List.nil_append, mxL]; omega
  | cons a l ih => simp only [List.cons_append, mxL, ih]; omega
theorem mnL_le {l : List Nat} {x : Nat} (h : x ∈ l) : mnL l ≤ x := by
  induction l with
  | nil => cases h
  | cons a l ih =>
    rcases List.mem_cons.mp h with rfl | h
    · simp only [mnL]; omega
    · have := ih h
      simp only [mnL]; omega
theorem mxL_ge {l : List Nat} {x : Nat} (h : x ∈ l) : x ≤ mxL l := by
  induction l with
  | nil => cases h
  | cons a l ih =>
    rcases List.mem_cons.mp h with rfl | h
    · simp only [mxL]; omega
    · have := ih h
      simp only [mxL]; omega
theorem mnL_mem {l : List Nat} (h : l ≠ []) (hc : ∀ x ∈ l, x < 4096) : mnL l ∈ l := by
  induction l with
  | nil => exact absurd rfl h
  | cons a l ih =>
    by_cases g : l = []
    · subst g
      have := hc a List.mem_cons_self
      simp only [mnL]
      rw [Nat.min_eq_left (by omega)]
      exact List.mem_cons_self
    · have := ih g fun x hx => hc x (List.mem_cons_of_mem _ hx)
      simp only [mnL]
      rcases Nat.le_total a (mnL l) with q | q
      · rw [Nat.min_eq_left q]
        exact List.mem_cons_self
      · rw [Nat.min_eq_right q]
        exact List.mem_cons_of_mem _ this
theorem mxL_mem {l : List Nat} (h : l ≠ []) : mxL l ∈ l := by
  induction l with
  | nil => exact absurd rfl h
  | cons a l ih =>
    by_cases g : l = []
    · subst g
      simp only [mxL]
      rw [Nat.max_eq_left (Nat.zero_le _)]
      exact List.mem_cons_self
    · have := ih g
      simp only [mxL]
      rcases Nat.le_total a (mxL l) with q | q
      · rw [Nat.max_eq_right q]
        exact List.mem_cons_of_mem _ this
      · rw [Nat.max_eq_left q]
        exact List.mem_cons_self
/-- a child: 200000 for none, 100000 and a code for a position, or the node's number -/
def kidN (l : List Nat) (q d : Nat) : Nat := if (l.filter (inQ q d)).length = 0 then 200000 else if mnL (l.filter (inQ q d)) = mxL (l.filter (inQ q d)) then 100000 + mnL (l.filter (inQ q d)) else sq (mnL (l.filter (inQ q d))) (spn (mnL (l.filter (inQ q d))) (mxL (l.filter (inQ q d))))
theorem kidN_perm {l m : List Nat} (h : l.Perm m) {q d : Nat} : kidN l q d = kidN m q d := by
  have h1 := h.filter (inQ q d)
  unfold kidN
  rw [h1.length_eq, mnL_perm h1, mxL_perm h1]
theorem ne_of_len {l : List Nat} (h : ¬ l.length = 0) : l ≠ [] := fun q => h (by rw [q]; rfl)
/-- what is said of a child that is a node -/
theorem kid_node {cs : List Nat} (hc : C12 cs) {q d : Nat} (hq : isNode cs q) (hd : d < 4) (hl : ¬ (cs.filter (inQ q d)).length = 0) (hm : ¬ mnL (cs.filter (inQ q d)) = mxL (cs.filter (inQ q d))) :
    ∃ e, 1 ≤ e ∧ e < sqE q ∧ kidN cs q d = sq (mnL (cs.filter (inQ q d))) e ∧ spl e (mnL (cs.filter (inQ q d))) (mxL (cs.filter (inQ q d))) ∧ isNode cs (kidN cs q d) ∧ q < kidN cs q d ∧ mnL (cs.filter (inQ q d)) ∈ cs ∧
    ∀ p, isNode cs p → q < p → p < kidN cs q d → hB p (mnL (cs.filter (inQ q d))) = false := by
  obtain ⟨c0, E, h1, h2, h3, rfl, -⟩ := node_ex hc hq
  generalize em : cs.filter (inQ (sq c0 E) d) = m at hl hm ⊢
  have hmem : ∀ x, x ∈ m ↔ x ∈ cs ∧ x / 4 ^ (E - 1) = c0 / 4 ^ E * 4 + d := fun x => by
    rw [← em, List.mem_filter, inQ_sq h2 h3, decide_eq_true_eq]
  have hc2 : ∀ x ∈ m, x < 4096 := fun x hx => hc x ((hmem x).mp hx).1
  have m1 := mnL_mem (ne_of_len hl) hc2
  have m2 := mxL_mem (ne_of_len hl)
  obtain ⟨a1, a2⟩ := (hmem _).mp m1
  obtain ⟨b1, b2⟩ := (hmem _).mp m2
  obtain ⟨e, e1, e2, e3, e4⟩ := spn_key (hc2 _ m1) (hc2 _ m2) hm
  have heE : e < E := by
    rcases Nat.lt_or_ge e E with g | g
    · exact g
    · exact absurd (dv_up (a2.trans b2.symm) (show E - 1 ≤ e - 1 by omega)) e4.2
  have hk : kidN cs (sq c0 E) d = sq (mnL m) e := by
    unfold kidN
    rw [em, if_neg hl, if_neg hm, e3]
  have hnd : isNode cs (sq (mnL m) e) := Or.inr ⟨e, _, _, e1, by omega, a1, b1, e4, rfl⟩
  have hlt : sq c0 E < sq (mnL m) e := by
    by_cases g : E = 6
    · subst g
      have : sq c0 6 = 0 := by
        unfold sq
        show c0 / 4096 * 4096 * 8 + 6 - 6 = 0
        omega
      rw [this]
      exact sq_pos (by omega)
    · have : sq c0 E = sq (mnL m) E := sq_cong (by
        rw [dv_s (c := mnL m) h2, a2]
        omega)
      rw [this]
      exact sq_lt2 e1 heE (by omega)
  refine ⟨e, e1, by rw [sq_e h3]; exact heE, hk, e4, by rw [hk]; exact hnd, by rw [hk]; exact hlt, a1, fun p hp p1 p2 => ?_⟩
  rw [hk] at p2
  obtain ⟨c, f, f1, f2, f3, rfl, f4⟩ := node_ex hc hp
  rw [sq_hB f3]
  refine decide_eq_false fun g => ?_
  rcases f4 with f4 | ⟨f4, f5, c', f6, f7⟩
  · omega
  · have hp : sq c f = sq (mnL m) f := sq_cong g.symm
    rw [hp] at p1 p2
    have k1 : e < f := by
      rcases Nat.lt_or_ge e f with z | z
      · exact z
      · rcases Nat.lt_or_ge f e with y | y
        · have := sq_lt2 (x := mnL m) f2 y (by omega)
          omega
        · have : e = f := by omega
          subst this
          omega
    have k2 : f < E := by
      rcases Nat.lt_or_ge f E with z | z
      · exact z
      · have hE : sq c0 E = sq (mnL m) E := sq_cong (by
          rw [dv_s (c := mnL m) h2, a2]
          omega)
        rw [hE] at p1
        rcases Nat.lt_or_ge E f with y | y
        · have := sq_lt2 (x := mnL m) h2 y f4
          omega
        · have : E = f := by omega
          subst this
          omega
    have i1 : c ∈ m := (hmem c).mpr ⟨f5, (dv_up g.symm (show f ≤ E - 1 by omega)).trans a2⟩
    have i2 : c' ∈ m := (hmem c').mpr ⟨f6, (dv_up (f7.1.symm.trans g.symm) (show f ≤ E - 1 by omega)).trans a2⟩
    have j1 : mnL m / 4 ^ e ≤ c / 4 ^ e := Nat.div_le_div_right (mnL_le i1)
    have j2 : c / 4 ^ e ≤ mxL m / 4 ^ e := Nat.div_le_div_right (mxL_ge i1)
    have j3 : mnL m / 4 ^ e ≤ c' / 4 ^ e := Nat.div_le_div_right (mnL_le i2)
    have j4 : c' / 4 ^ e ≤ mxL m / 4 ^ e := Nat.div_le_div_right (mxL_ge i2)
    have j5 := e4.1
    exact f7.2 (dv_up (show c / 4 ^ e = c' / 4 ^ e by omega) (show e ≤ f - 1 by omega))
/-- the three kinds of children -/
theorem kid_c {cs : List Nat} (hc : C12 cs) {q d : Nat} (hq : isNode cs q) (hd : d < 4 := by omega) :
    ((cs.filter (inQ q d)).length = 0 ∧ kidN cs q d = 200000) ∨
    (¬ (cs.filter (inQ q d)).length = 0 ∧ mnL (cs.filter (inQ q d)) = mxL (cs.filter (inQ q d)) ∧ kidN cs q d = 100000 + mnL (cs.filter (inQ q d)) ∧ mnL (cs.filter (inQ q d)) < 4096) ∨
    (¬ (cs.filter (inQ q d)).length = 0 ∧ ¬ mnL (cs.filter (inQ q d)) = mxL (cs.filter (inQ q d)) ∧ kidN cs q d < 40000 ∧ isNode cs (kidN cs q d)) := by
  by_cases h1 : (cs.filter (inQ q d)).length = 0
  · left
    exact ⟨h1, by unfold kidN; rw [if_pos h1]⟩
  · right
    by_cases h2 : mnL (cs.filter (inQ q d)) = mxL (cs.filter (inQ q d))
    · left
      exact ⟨h1, h2, by unfold kidN; rw [if_neg h1, if_pos h2], hc _ (List.mem_filter.mp (mnL_mem (ne_of_len h1) fun x hx => hc x (List.mem_filter.mp hx).1)).1⟩
    · right
      obtain ⟨e, -, -, -, -, h3, -⟩ := kid_node hc hq hd h1 h2
      exact ⟨h1, h2, node_lt hc h3, h3⟩
/-! the number of a node in a row of nodes -/
def ixN : List Nat → Nat → Nat
  | [], _ => 0
  | a :: l, x => if a = x then 0 else ixN l x + 1
theorem ixN_at : ∀ {l : List Nat} {i : Nat}, Asc l → i < l.length → ixN l (l.getD i 0) = i
  | a :: l, 0, _, _ => by unfold ixN; exact if_pos rfl
  | a :: l, i + 1, h, hi => by
    have h1 : i < l.length := by rw [List.length_cons] at hi; omega
    have h2 : l.getD i 0 ∈ l := getD_mem h1
    have := asc_head h _ h2
    unfold ixN
    rw [List.getD_cons_succ, if_neg (by omega), ixN_at (asc_tail h) h1]
theorem ixN_mem {l : List Nat} {x : Nat} (ha : Asc l) (h : x ∈ l) : ixN l x < l.length ∧ l.getD (ixN l x) 0 = x := by
  obtain ⟨i, hi, rfl⟩ := mem_getD h
  rw [ixN_at ha hi]
  exact ⟨hi, rfl⟩
/-- what both tell of a child -/
def tell (qs : List Nat) (k : Nat) : Int32 := if k = 200000 then -1 else if 100000 ≤ k then nI (1000 + 64 * yN (k - 100000) + xN (k - 100000)) else nI (ixN qs k)
/-! counting -/
theorem cB_range (p : Nat → Bool) : ∀ k, cB p k = ((List.range k).filter p).length
  | 0 => rfl
  | k + 1 => by
    unfold cB
    rw [List.range_succ, List.filter_append, List.length_append, cB_range p k]
    congr 1
    by_cases h : p k = true
    · rw [if_pos h, List.filter_cons_of_pos h]
      rfl
    · rw [if_neg h, List.filter_cons_of_neg h]
      rfl
theorem filt_app {l : List Nat} {x : Nat} (f : Nat → Bool) : (l ++ [x]).filter f = l.filter f ++ if f x then [x] else [] := by
  rw [List.filter_append]
  congr 1
  by_cases h : f x = true
  · rw [if_pos h, List.filter_cons_of_pos h]
    rfl
  · rw [if_neg h, List.filter_cons_of_neg h]
    rfl
/-- codes of the points on a level with a property, of the ids below k -/
def onB (S : Nat → Int32) (l i : Nat) : Bool := decide (S (5 * i) ≠ 0) && decide (l ≤ hgt i)
theorem onB_iff {S : Nat → Int32} {l i : Nat} (hi : i < 24) : onB S l i = true ↔ i ∈ onS S l := by
  unfold onB
  rw [onS_mem, Bool.and_eq_true, decide_eq_true_eq, decide_eq_true_eq]
  exact ⟨fun h => ⟨hi, h⟩, fun h => h.2⟩
def onL (S : Nat → Int32) (l : Nat) (g : Nat → Bool) (k : Nat) : List Nat := ((List.range k).filter fun i => onB S l i && g (codeS S i)).map (codeS S)
theorem onL_succ {S : Nat → Int32} {l k : Nat} {g : Nat → Bool} : onL S l g (k + 1) = onL S l g k ++ if onB S l k && g (codeS S k) then [codeS S k] else [] := by
  unfold onL
  rw [List.range_succ, filt_app, List.map_append]
  congr 1
  by_cases h : (onB S l k && g (codeS S k)) = true
  · rw [if_pos h, if_pos h]
    rfl
  · rw [if_neg h, if_neg h]
    rfl
theorem onL_all {S : Nat → Int32} {l : Nat} {g : Nat → Bool} : onL S l g 24 = (cdS S l).filter g := by
  unfold onL cdS onS idsS
  rw [List.filter_map, List.filter_filter, List.filter_filter]
  congr 1
  refine List.filter_congr fun i _ => ?_
  unfold onB
  show (decide (S (5 * i) ≠ 0) && decide (l ≤ hgt i) && g (codeS S i)) = (g (codeS S i) && decide (l ≤ hgt i) && decide (S (5 * i) ≠ 0))
  cases decide (S (5 * i) ≠ 0) <;> cases decide (l ≤ hgt i) <;> cases g (codeS S i) <;> rfl
end
section
/-! WHAT THE CLASS TELLS OF A LEVEL -/
def depN (qs : List Nat) (i : Nat) : Nat := cB (fun k => hB (qs.getD k 0) (qs.getD i 0 / 8)) i
def gdN (qs : List Nat) : Nat → Nat
  | 0 => 0
  | k + 1 => max (gdN qs k) (depN qs k)
theorem mx_nI {a b : Nat} (ha : a < 2 ^ 31) (hb : b < 2 ^ 31) : mxI (nI a) (nI b) = nI (max a b) := by
  unfold mxI
  rcases Nat.lt_or_ge a b with h | h
  · rw [if_pos ((nI_ltI ha hb).mpr h), Nat.max_eq_right (by omega)]
  · rw [if_neg (fun q => by have := (nI_ltI ha hb).mp q; omega), Nat.max_eq_left h]
def b4 (b0 b1 b2 b3 : Bool) : Nat := (if b0 then 1 else 0) + (if b1 then 2 else 0) + (if b2 then 4 else 0) + (if b3 then 8 else 0)
theorem b4_or : ∀ b0 b1 b2 b3 : Bool, ∀ d, d < 4 → nI (b4 b0 b1 b2 b3) ||| ((1 : Int32) <<< (nI d &&& 31 : Int32)) = nI (b4 (b0 || d == 0) (b1 || d == 1) (b2 || d == 2) (b3 || d == 3)) := by decide +kernel
theorem b4_cnt : ∀ b0 b1 b2 b3 : Bool, m_J6_bitCount_0f7a4 (nI (b4 b0 b1 b2 b3)) = nI ((if b0 then 1 else 0) + (if b1 then 1 else 0) + (if b2 then 1 else 0) + (if b3 then 1 else 0)) := by decide +kernel
def qdN (l : List Nat) (q : Nat) : Nat := cB (fun d => decide (kidN l q d ≠ 200000)) 4
def pcB (l qs : List Nat) (k : Nat) : Bool := decide (100000 ≤ kidN l (qs.getD (k / 4) 0) (k % 4)) && decide (kidN l (qs.getD (k / 4) 0) (k % 4) ≠ 200000)
section LQ
variable {n a : Nat} {w : Wd} {cs qs : List Nat}
theorem NodesOf.at (hN : NodesOf cs qs) {i : Nat} (hi : i < qs.length) : isNode cs (qs.getD i 0) := (hN.2 _).mp (getD_mem hi)
theorem m_depth (hn : 60 ≤ n) (h : LvC w a cs qs) (hc : C12 cs) (hN : NodesOf cs qs) {i : Nat} (hi : i < qs.length) : m_X1_depthOf n w a (nI i) = some (nI (depN qs i)) := by
  have h24 := h.2.2.2.2.1
  unfold m_X1_depthOf depN
  obtain ⟨v, e, rfl⟩ := lp (σ := Unit) (R := Int32) (fun t k _ => m_X1_depthOf_p4 n t w a (nI i) (nI (cB (fun k => hB (qs.getD k 0) (qs.getD i 0 / 8)) k)) (nI k)) (fun _ _ => True) (fun v => v = nI (cB (fun k => hB (qs.getD k 0) (qs.getD i 0 / 8)) i)) i (by
    rintro t k ⟨⟩ hk -
    left
    refine ⟨(), ?_, trivial⟩
    obtain ⟨p1, p2, p3, p4⟩ := node_m hc (hN.at hi)
    obtain ⟨r1, r2, r3, r4⟩ := node_m hc (hN.at (show k < qs.length by omega))
    rw [m_X1_depthOf_p4, if_neg (nI_ge hk (by omega)), h.g2, Option.bind_some, h.sqr (by omega), Option.bind_some, Option.bind_some, h.sqr hi, Option.bind_some, sq_corner (by omega), m_holds (by omega) r2 (by omega)]
    show _ = m_X1_depthOf_p4 n t w a (nI i) (nI (cB (fun k => hB (qs.getD k 0) (qs.getD i 0 / 8)) k + if hB (qs.getD k 0) (qs.getD i 0 / 8) then 1 else 0)) (nI (k + 1))
    by_cases c : hB (qs.getD k 0) (qs.getD i 0 / 8) = true
    · rw [if_pos c, if_neg (by decide), if_pos c, nI_1, nI_1]
    · rw [if_neg c, if_pos rfl, if_neg c, nI_1]
      rfl) (by
    rintro t ⟨⟩ -
    exact ⟨_, by rw [m_X1_depthOf_p4, if_pos (Int32.le_refl _)], rfl⟩) i 0 n () (by omega) (by omega) trivial
  exact e
theorem depN_le (qs : List Nat) (i : Nat) : depN qs i ≤ i := cB_le _ i
theorem gdN_le (qs : List Nat) : ∀ i, gdN qs i ≤ i
  | 0 => Nat.le_refl 0
  | k + 1 => by
    have := gdN_le qs k
    have := depN_le qs k
    unfold gdN
    omega
theorem m_gdepth (hn : 60 ≤ n) (h : LvC w a cs qs) (hc : C12 cs) (hN : NodesOf cs qs) : m_X1_greatestDepth n w a = some (nI (gdN qs qs.length)) := by
  have h24 := h.2.2.2.2.1
  unfold m_X1_greatestDepth
  obtain ⟨v, e, rfl⟩ := lp (σ := Unit) (R := Int32) (fun t k _ => m_X1_greatestDepth_p4 n t w a (nI (gdN qs k)) (nI k)) (fun _ _ => True) (fun v => v = nI (gdN qs qs.length)) qs.length (by
    rintro t k ⟨⟩ hk -
    left
    refine ⟨(), ?_, trivial⟩
    have := gdN_le qs k
    have := depN_le qs k
    rw [m_X1_greatestDepth_p4, h.i3, Option.bind_some, if_neg (nI_ge hk (by omega)), h.c, Option.bind_some, m_depth hn h hc hN hk, Option.bind_some, mx_nI (by omega) (by omega), nI_1]
    rfl) (by
    rintro t ⟨⟩ -
    exact ⟨_, by rw [m_X1_greatestDepth_p4, h.i3, Option.bind_some, if_pos (Int32.le_refl _)], rfl⟩) qs.length 0 n () (by omega) (by omega) trivial
  exact e
theorem m_points (hn : 60 ≤ n) (h : LvC w a cs qs) (hc : C12 cs) {q : Nat} (hq : isNode cs q) : m_X1_pointsIn n w a (nI q) = some (nI (cs.filter (hB q)).length) := by
  have h24 := h.2.2.2.1
  obtain ⟨p1, p2, p3, p4⟩ := node_m hc hq
  unfold m_X1_pointsIn
  obtain ⟨v, e, rfl⟩ := lp (σ := Unit) (R := Int32) (fun t k _ => m_X1_pointsIn_p4 n t w a (nI q) (nI ((cs.take k).filter (hB q)).length) (nI k)) (fun _ _ => True) (fun v => v = nI (cs.filter (hB q)).length) cs.length (by
    rintro t k ⟨⟩ hk -
    left
    refine ⟨(), ?_, trivial⟩
    have hk2 := hc _ (getD_mem hk)
    rw [m_X1_pointsIn_p4, h.i1, Option.bind_some, if_neg (nI_ge hk (by omega)), h.g0, Option.bind_some, h.cd hk, Option.bind_some, m_holds (by omega) p2 (by omega), take_s hk, filt_app, List.length_append]
    by_cases c : hB q (cs.getD k 0) = true
    · rw [if_pos c, if_neg (by decide), if_pos c, nI_1, nI_1]
      rfl
    · rw [if_neg c, if_pos rfl, if_neg c, nI_1]
      rfl) (by
    rintro t ⟨⟩ -
    exact ⟨_, by rw [m_X1_pointsIn_p4, h.i1, Option.bind_some, if_pos (Int32.le_refl _), List.take_length], rfl⟩) cs.length 0 n () (by omega) (by omega) trivial
  exact e
theorem any_len {l : List Nat} {f : Nat → Bool} : l.any f = decide ((l.filter f).length ≠ 0) := by
  induction l with
  | nil => rfl
  | cons x l ih =>
    by_cases c : f x = true
    · rw [List.filter_cons_of_pos c, List.any_cons, c, List.length_cons]
      exact (decide_eq_true (by omega)).symm
    · rw [List.filter_cons_of_neg c, List.any_cons, ih]
      cases hx : f x
      · rfl
      · exact absurd hx c
theorem any_app1 {l : List Nat} {x : Nat} {f : Nat → Bool} : (l ++ [x]).any f = (l.any f || f x) := by
  rw [List.any_append, List.any_cons, List.any_nil, Bool.or_false]
theorem kid_any (hc : C12 cs) {q d : Nat} (hq : isNode cs q) (hd : d < 4 := by omega) : decide (kidN cs q d ≠ 200000) = cs.any (inQ q d) := by
  rw [any_len]
  rcases kid_c hc (d := d) hq with ⟨h1, h2⟩ | ⟨h1, -, h2, h3⟩ | ⟨h1, -, h2, -⟩
  · rw [decide_eq_false (fun z => z h2), decide_eq_false (fun z => z h1)]
  · rw [decide_eq_true (show kidN cs q d ≠ 200000 by omega), decide_eq_true h1]
  · rw [decide_eq_true (show kidN cs q d ≠ 200000 by omega), decide_eq_true h1]
theorem m_quads (hn : 60 ≤ n) (h : LvC w a cs qs) (hc : C12 cs) {q : Nat} (hq : isNode cs q) : m_X1_quadrantsIn n w a (nI q) = some (nI (qdN cs q)) := by
  have h24 := h.2.2.2.1
  obtain ⟨p1, p2, p3, p4⟩ := node_m hc hq
  obtain ⟨c0, E, -, E1, E2, hg, -⟩ := node_ex hc hq
  unfold m_X1_quadrantsIn
  obtain ⟨v, e, rfl⟩ := lp (σ := Unit) (R := Int32) (fun t k _ => m_X1_quadrantsIn_p4 n t w a (nI q) (nI (b4 ((cs.take k).any (inQ q 0)) ((cs.take k).any (inQ q 1)) ((cs.take k).any (inQ q 2)) ((cs.take k).any (inQ q 3)))) (nI k)) (fun _ _ => True) (fun v => v = nI (qdN cs q)) cs.length (by
    rintro t k ⟨⟩ hk -
    left
    refine ⟨(), ?_, trivial⟩
    have hk2 := hc _ (getD_mem hk)
    have hI : ∀ d, d < 4 → inQ q d (cs.getD k 0) = (hB q (cs.getD k 0) && decide (cs.getD k 0 / 4 ^ (sqE q - 1) % 4 = d)) := fun d hd => by
      rw [hg, sq_e E2]
      exact inQ_hB E1 E2 hd
    rw [m_X1_quadrantsIn_p4, h.i1, Option.bind_some, if_neg (nI_ge hk (by omega)), h.g0, Option.bind_some, h.cd hk, Option.bind_some, m_holds (by omega) p2 (by omega), take_s hk, any_app1, any_app1, any_app1, any_app1, hI 0 (by decide), hI 1 (by decide), hI 2 (by decide), hI 3 (by decide)]
    by_cases c : hB q (cs.getD k 0) = true
    · rw [if_pos c, if_neg (by decide), Option.bind_some, h.cd hk, Option.bind_some, m_quad (by omega) p2 p3 (by omega), b4_or _ _ _ _ _ (Nat.mod_lt _ (by decide)), c, nI_1]
      rfl
    · rw [if_neg c, if_pos rfl, nI_1, show hB q (cs.getD k 0) = false from Bool.eq_false_iff.mpr c, Bool.false_and, Bool.or_false, Bool.false_and, Bool.or_false, Bool.false_and, Bool.or_false, Bool.false_and, Bool.or_false]) (by
    rintro t ⟨⟩ -
    refine ⟨_, by rw [m_X1_quadrantsIn_p4, h.i1, Option.bind_some, if_pos (Int32.le_refl _), List.take_length, m_X1_quadrantsIn_p46, b4_cnt], ?_⟩
    have eq : qdN cs q = 0 + (if decide (kidN cs q 0 ≠ 200000) then 1 else 0) + (if decide (kidN cs q 1 ≠ 200000) then 1 else 0) + (if decide (kidN cs q 2 ≠ 200000) then 1 else 0) + (if decide (kidN cs q 3 ≠ 200000) then 1 else 0) := rfl
    rw [eq, kid_any hc hq, kid_any hc hq, kid_any hc hq, kid_any hc hq]
    congr 1
    omega) cs.length 0 n () (by omega) (by omega) trivial
  exact e
theorem m_gna (hn : 60 ≤ n) (h : LvC w a cs qs) (hc : C12 cs) (hN : NodesOf cs qs) {ix d : Nat} (hi : ix < qs.length) (hd : d < 4) (hl : ¬ (cs.filter (inQ (qs.getD ix 0) d)).length = 0) (hm : ¬ mnL (cs.filter (inQ (qs.getD ix 0) d)) = mxL (cs.filter (inQ (qs.getD ix 0) d))) :
    m_X1_greatestNodeAround n w a (nI (mnL (cs.filter (inQ (qs.getD ix 0) d)))) (nI ix) = some (nI (ixN qs (kidN cs (qs.getD ix 0) d))) := by
  have h24 := h.2.2.2.2.1
  obtain ⟨e, e1, e2, e3, e4, e5, e6, e7, e8⟩ := kid_node hc (hN.at hi) hd hl hm
  obtain ⟨b1, b2⟩ := ixN_mem hN.1 ((hN.2 _).mpr e5)
  generalize mnL (cs.filter (inQ (qs.getD ix 0) d)) = x at *
  generalize ek : kidN cs (qs.getD ix 0) d = key at *
  have hx := hc x e7
  have hlt : ix < ixN qs key := by
    rcases Nat.lt_or_ge ix (ixN qs key) with g | g
    · exact g
    · have := srt_le (l := qs) (hN.1.imp Nat.le_of_lt) g hi
      omega
  unfold m_X1_greatestNodeAround
  rw [nI_1]
  obtain ⟨v, e, rfl⟩ := lp (σ := Unit) (R := Int32) (fun t k _ => m_X1_greatestNodeAround_p4 n t w a (nI x) (nI k)) (fun k _ => ix < k) (fun v => v = nI (ixN qs key)) (ixN qs key) (by
    rintro t k ⟨⟩ hk hI
    left
    refine ⟨(), ?_, Nat.lt_succ_of_lt hI⟩
    have hk2 : k < qs.length := by omega
    obtain ⟨p1, p2, p3, p4⟩ := node_m hc (hN.at hk2)
    have hf := e8 _ (hN.at hk2) (asc_get hN.1 hI hk2) (by rw [← b2]; exact asc_get hN.1 hk b1)
    rw [m_X1_greatestNodeAround_p4, h.i3, Option.bind_some, if_neg (nI_ge hk2 (by omega)), h.g2, Option.bind_some, h.sqr hk2, Option.bind_some, m_holds (by omega) p2 (by omega), hf, if_pos (by decide), nI_1]) (by
    rintro t ⟨⟩ hI
    refine ⟨_, ?_, rfl⟩
    obtain ⟨p1, p2, p3, p4⟩ := node_m hc e5
    rw [m_X1_greatestNodeAround_p4, h.i3, Option.bind_some, if_neg (nI_ge b1 (by omega)), h.g2, Option.bind_some, h.sqr b1, Option.bind_some, b2, m_holds (by omega) p2 (by omega), e3, sq_hB (by have := sqE_le (qs.getD ix 0); omega), decide_eq_true rfl, if_pos rfl, if_neg (by decide)]) (ixN qs key - (ix + 1)) (ix + 1) n () (by omega) (by omega) (Nat.lt_succ_self _)
  exact e
theorem tell_pos {x : Nat} (hx : x < 4096) : tell qs (100000 + x) = nI (1000 + 64 * yN x + xN x) := by
  unfold tell
  rw [if_neg (by omega), if_pos (by omega), Nat.add_sub_cancel_left]
theorem nI_m1 {x : Nat} (hx : x < 2 ^ 31) : ¬ nI x = -1 := fun q => by
  have := congrArg Int32.toInt q
  rw [nI_toInt hx, show (-1 : Int32).toInt = -1 from rfl] at this
  omega
theorem m_child (hn : 60 ≤ n) (h : LvC w a cs qs) (hs : Srt cs) (hc : C12 cs) (hN : NodesOf cs qs) {ix d : Nat} (hi : ix < qs.length) (hd : d < 4) : m_X1_childOf n w a (nI ix) (nI d) = some (tell qs (kidN cs (qs.getD ix 0) d)) := by
  have h24 := h.2.2.2.1
  have hq := hN.at hi
  obtain ⟨p1, p2, p3, p4⟩ := node_m hc hq
  have hI : ∀ c, inQ (qs.getD ix 0) d c = (hB (qs.getD ix 0) c && decide (c / 4 ^ (sqE (qs.getD ix 0) - 1) % 4 = d)) := fun c => by
    obtain ⟨c0, E, -, E1, E2, e, -⟩ := node_ex hc hq
    rw [e, sq_e E2]
    exact inQ_hB E1 E2 hd
  unfold m_X1_childOf
  rw [h.g2, Option.bind_some, h.sqr hi, Option.bind_some]
  let fst : Nat → Int32 := fun k => if ((cs.take k).filter (inQ (qs.getD ix 0) d)).length = 0 then -1 else nI (mnL ((cs.take k).filter (inQ (qs.getD ix 0) d)))
  let lst : Nat → Int32 := fun k => if ((cs.take k).filter (inQ (qs.getD ix 0) d)).length = 0 then -1 else nI (mxL ((cs.take k).filter (inQ (qs.getD ix 0) d)))
  obtain ⟨v, e, rfl⟩ := lp (σ := Unit) (R := Int32) (fun t k _ => m_X1_childOf_p16 n t w a (nI ix) (nI d) (nI (qs.getD ix 0)) (fst k) (lst k) (nI k)) (fun _ _ => True) (fun v => v = tell qs (kidN cs (qs.getD ix 0) d)) cs.length (by
    rintro t k ⟨⟩ hk -
    left
    refine ⟨(), ?_, trivial⟩
    have hk2 := hc _ (getD_mem hk)
    rw [m_X1_childOf_p16, h.i1, Option.bind_some, if_neg (nI_ge hk (by omega)), h.g0, Option.bind_some, h.cd hk, Option.bind_some, m_holds (by omega) p2 (by omega)]
    have ef : (cs.take (k + 1)).filter (inQ (qs.getD ix 0) d) = (cs.take k).filter (inQ (qs.getD ix 0) d) ++ if inQ (qs.getD ix 0) d (cs.getD k 0) then [cs.getD k 0] else [] := by rw [take_s hk, filt_app]
    by_cases c : hB (qs.getD ix 0) (cs.getD k 0) = true
    · rw [if_pos c, if_neg (by decide), Option.bind_some, h.cd hk, Option.bind_some, m_quad (by omega) p2 p3 (by omega)]
      have hm4 : cs.getD k 0 / 4 ^ (sqE (qs.getD ix 0) - 1) % 4 < 4 := Nat.mod_lt _ (by decide)
      by_cases c2 : cs.getD k 0 / 4 ^ (sqE (qs.getD ix 0) - 1) % 4 = d
      · rw [if_pos (by rw [c2])]
        have hi1 : inQ (qs.getD ix 0) d (cs.getD k 0) = true := by rw [hI, c, decide_eq_true c2]; rfl
        rw [hi1, if_pos rfl] at ef
        have hle : ∀ y ∈ (cs.take k).filter (inQ (qs.getD ix 0) d), y ≤ cs.getD k 0 := fun y hy => by
          obtain ⟨j, hj, ej⟩ := mem_getD (List.mem_filter.mp hy).1
          rw [List.length_take] at hj
          have e2 : (cs.take k).getD j 0 = cs.getD j 0 := by
            rw [List.getD_eq_getElem?_getD, List.getD_eq_getElem?_getD, List.getElem?_take, if_pos (by omega)]
          rw [← ej, e2]
          exact srt_le hs (by omega) hk
        have n1 : fst (k + 1) = if ((cs.take k).filter (inQ (qs.getD ix 0) d)).length = 0 then nI (cs.getD k 0) else fst k := by
          show (if ((cs.take (k + 1)).filter (inQ (qs.getD ix 0) d)).length = 0 then (-1 : Int32) else nI (mnL ((cs.take (k + 1)).filter (inQ (qs.getD ix 0) d)))) = if ((cs.take k).filter (inQ (qs.getD ix 0) d)).length = 0 then nI (cs.getD k 0) else (if ((cs.take k).filter (inQ (qs.getD ix 0) d)).length = 0 then (-1 : Int32) else nI (mnL ((cs.take k).filter (inQ (qs.getD ix 0) d))))
          rw [ef, List.length_append, if_neg (by rw [List.length_cons]; omega), mnL_app (by omega)]
          generalize (cs.take k).filter (inQ (qs.getD ix 0) d) = m at hle ⊢
          cases m with
          | nil =>
            show nI (min 4096 (cs.getD k 0)) = nI (cs.getD k 0)
            rw [Nat.min_eq_right (by omega)]
          | cons y m =>
            rw [if_neg (by rw [List.length_cons]; omega), if_neg (by rw [List.length_cons]; omega), Nat.min_eq_left]
            exact Nat.le_trans (mnL_le (List.mem_cons_self (l := m))) (hle y List.mem_cons_self)
        have n2 : lst (k + 1) = nI (cs.getD k 0) := by
          show (if ((cs.take (k + 1)).filter (inQ (qs.getD ix 0) d)).length = 0 then (-1 : Int32) else nI (mxL ((cs.take (k + 1)).filter (inQ (qs.getD ix 0) d)))) = _
          rw [ef, List.length_append, if_neg (by rw [List.length_cons]; omega), mxL_app]
          generalize (cs.take k).filter (inQ (qs.getD ix 0) d) = m at hle ⊢
          cases m with
          | nil => rw [show mxL [] = 0 from rfl, Nat.max_eq_right (by omega)]
          | cons y m => rw [Nat.max_eq_right (hle _ (mxL_mem (by simp)))]
        rw [n1, n2]
        by_cases c3 : ((cs.take k).filter (inQ (qs.getD ix 0) d)).length = 0
        · rw [if_pos (show fst k = -1 from if_pos c3), Option.bind_some, h.cd hk, Option.bind_some, Option.bind_some, h.cd hk, Option.bind_some, if_pos c3, nI_1]
        · have : ¬ fst k = -1 := by
            show ¬ (if ((cs.take k).filter (inQ (qs.getD ix 0) d)).length = 0 then (-1 : Int32) else nI (mnL ((cs.take k).filter (inQ (qs.getD ix 0) d)))) = -1
            rw [if_neg c3]
            have := mnL_mem (ne_of_len c3) fun x hx => hc x (List.mem_of_mem_take (List.mem_filter.mp hx).1)
            have := hc _ (List.mem_of_mem_take (List.mem_filter.mp this).1)
            exact nI_m1 (by omega)
          rw [if_neg this, Option.bind_some, h.cd hk, Option.bind_some, if_neg c3, nI_1]
      · have hi1 : inQ (qs.getD ix 0) d (cs.getD k 0) = false := by rw [hI, decide_eq_false c2, Bool.and_false]
        rw [hi1, if_neg (by decide), List.append_nil] at ef
        rw [if_neg (fun z => c2 ((nI_eq (by omega) (by omega)).mp z)), nI_1]
        show _ = m_X1_childOf_p16 n t w a (nI ix) (nI d) (nI (qs.getD ix 0)) (if ((cs.take (k + 1)).filter (inQ (qs.getD ix 0) d)).length = 0 then (-1 : Int32) else nI (mnL ((cs.take (k + 1)).filter (inQ (qs.getD ix 0) d)))) (if ((cs.take (k + 1)).filter (inQ (qs.getD ix 0) d)).length = 0 then (-1 : Int32) else nI (mxL ((cs.take (k + 1)).filter (inQ (qs.getD ix 0) d)))) _
        rw [ef]
    · have hi1 : inQ (qs.getD ix 0) d (cs.getD k 0) = false := by rw [hI, Bool.eq_false_iff.mpr c, Bool.false_and]
      rw [hi1, if_neg (by decide), List.append_nil] at ef
      rw [if_neg c, if_pos rfl, nI_1]
      show _ = m_X1_childOf_p16 n t w a (nI ix) (nI d) (nI (qs.getD ix 0)) (if ((cs.take (k + 1)).filter (inQ (qs.getD ix 0) d)).length = 0 then (-1 : Int32) else nI (mnL ((cs.take (k + 1)).filter (inQ (qs.getD ix 0) d)))) (if ((cs.take (k + 1)).filter (inQ (qs.getD ix 0) d)).length = 0 then (-1 : Int32) else nI (mxL ((cs.take (k + 1)).filter (inQ (qs.getD ix 0) d)))) _
      rw [ef]) (by
    rintro t ⟨⟩ -
    refine ⟨_, ?_, rfl⟩
    show m_X1_childOf_p16 n (t + 1) w a (nI ix) (nI d) (nI (qs.getD ix 0)) (if ((cs.take cs.length).filter (inQ (qs.getD ix 0) d)).length = 0 then (-1 : Int32) else nI (mnL ((cs.take cs.length).filter (inQ (qs.getD ix 0) d)))) (if ((cs.take cs.length).filter (inQ (qs.getD ix 0) d)).length = 0 then (-1 : Int32) else nI (mxL ((cs.take cs.length).filter (inQ (qs.getD ix 0) d)))) (nI cs.length) = _
    rw [List.take_length, m_X1_childOf_p16, h.i1, Option.bind_some, if_pos (Int32.le_refl _), m_X1_childOf_p89]
    rcases kid_c hc (d := d) hq with ⟨h1, h2⟩ | ⟨h1, h2, h3, h4⟩ | ⟨h1, h2, h3, h4⟩
    · rw [if_pos h1, if_pos h1, if_pos rfl, if_pos rfl, h2]
      rfl
    · obtain ⟨⟨x1, x2⟩, y1, y2⟩ := xy6_all _ h4
      rw [if_neg h1, if_neg h1, h3, tell_pos h4, ← h2, if_pos rfl, if_neg (nI_m1 (by omega)), x1, y1, show (64 : Int32) = nI 64 from rfl, pk_mul, show (1000 : Int32) = nI 1000 from rfl, nI_add, nI_add]
    · have m1 := hc _ (List.mem_filter.mp (mnL_mem (ne_of_len h1) fun x hx => hc x (List.mem_filter.mp hx).1)).1
      have m2 := hc _ (List.mem_filter.mp (mxL_mem (ne_of_len h1))).1
      rw [if_neg h1, if_neg h1, if_neg (fun z => h2 ((nI_eq (by omega) (by omega)).mp z)), h.c, Option.bind_some, m_gna hn h hc hN hi hd h1 h2, Option.bind_some]
      unfold tell
      rw [if_neg (by omega), if_neg (by omega)]) cs.length 0 n () (by omega) (by omega) trivial
  exact e
theorem tell_c (hc : C12 cs) (hN : NodesOf cs qs) (h24 : qs.length ≤ 24) {q d : Nat} (hq : isNode cs q) (hd : d < 4 := by omega) :
    (kidN cs q d = 200000 ∧ tell qs (kidN cs q d) = -1) ∨ (∃ x, 1000 ≤ x ∧ x < 6000 ∧ 100000 ≤ kidN cs q d ∧ kidN cs q d ≠ 200000 ∧ tell qs (kidN cs q d) = nI x) ∨ (kidN cs q d < 40000 ∧ isNode cs (kidN cs q d) ∧ tell qs (kidN cs q d) = nI (ixN qs (kidN cs q d)) ∧ ixN qs (kidN cs q d) < qs.length ∧ qs.getD (ixN qs (kidN cs q d)) 0 = kidN cs q d) := by
  rcases kid_c hc (d := d) hq with ⟨h1, h2⟩ | ⟨h1, h2, h3, h4⟩ | ⟨h1, h2, h3, h4⟩
  · left
    exact ⟨h2, by rw [h2]; rfl⟩
  · right; left
    obtain ⟨⟨x1, x2⟩, y1, y2⟩ := xy6_all _ h4
    exact ⟨1000 + 64 * yN (mnL (cs.filter (inQ q d))) + xN (mnL (cs.filter (inQ q d))), by omega, by omega, by omega, by omega, by rw [h3, tell_pos h4]⟩
  · right; right
    obtain ⟨b1, b2⟩ := ixN_mem hN.1 ((hN.2 _).mpr h4)
    exact ⟨h3, h4, by unfold tell; rw [if_neg (by omega), if_neg (by omega)], b1, b2⟩
theorem m_posch (hn : 60 ≤ n) (h : LvC w a cs qs) (hs : Srt cs) (hc : C12 cs) (hN : NodesOf cs qs) : m_X1_positionChildren n w a = some (nI (cB (pcB cs qs) (4 * qs.length))) := by
  have h24 := h.2.2.2.2.1
  unfold m_X1_positionChildren
  obtain ⟨v, e, rfl⟩ := lp (σ := Unit) (R := Int32) (fun t k _ => m_X1_positionChildren_p4 n t w a (nI (cB (pcB cs qs) (4 * k))) (nI k)) (fun _ _ => True) (fun v => v = nI (cB (pcB cs qs) (4 * qs.length))) qs.length (by
    rintro t k ⟨⟩ hk -
    left
    refine ⟨(), ?_, trivial⟩
    rw [m_X1_positionChildren_p4, h.i3, Option.bind_some, if_neg (nI_ge hk (by omega))]
    obtain ⟨u, e, -⟩ := lpk (σ := Unit) (τ := Unit) (R := Option Int32) (fun t' d _ => m_X1_positionChildren_p14 n (fun w b0 b1 b2 => m_X1_positionChildren_p4 n t w b0 b1 b2) t' w a (nI (cB (pcB cs qs) (4 * k + d))) (nI k) (nI d)) (fun _ => m_X1_positionChildren_p4 n t w a (nI (cB (pcB cs qs) (4 * (k + 1)))) (nI (k + 1))) (fun _ _ => True) (fun _ => True) 4 (by
      rintro t' d ⟨⟩ hd -
      left
      refine ⟨(), ?_, trivial⟩
      have e1 : (4 * k + d) / 4 = k := by omega
      have e2 : (4 * k + d) % 4 = d := by omega
      rw [m_X1_positionChildren_p14, if_neg (show ¬ (4 : Int32) ≤ nI d from nI_ge hd (by decide)), h.c, Option.bind_some, m_child hn h hs hc hN hk hd, Option.bind_some]
      show _ = m_X1_positionChildren_p14 n _ t' w a (nI (cB (pcB cs qs) (4 * k + d) + if pcB cs qs (4 * k + d) then 1 else 0)) (nI k) (nI (d + 1))
      have ep : pcB cs qs (4 * k + d) = (decide (100000 ≤ kidN cs (qs.getD k 0) d) && decide (kidN cs (qs.getD k 0) d ≠ 200000)) := by
        unfold pcB
        rw [e1, e2]
      rcases tell_c hc hN h24 (d := d) (hN.at hk) with ⟨a1, a2⟩ | ⟨x, a1, a2, a3, a4, a5⟩ | ⟨a1, a2, a3, a4, a5⟩
      · rw [a2, if_pos (by decide), ep, a1, if_neg (by decide), nI_1]
        rfl
      · rw [a5, if_neg (show ¬ nI x < 1000 from nI_nlt a1 (by omega)), ep, decide_eq_true a3, decide_eq_true a4, if_pos (show (true && true) = true from rfl), nI_1, nI_1]
      · rw [a3, if_pos (show nI (ixN qs (kidN cs (qs.getD k 0) d)) < 1000 from nI_lt (show ixN qs (kidN cs (qs.getD k 0) d) < 1000 by omega) (by decide)), ep, decide_eq_false (show ¬ 100000 ≤ kidN cs (qs.getD k 0) d by omega), Bool.false_and, if_neg (by decide), nI_1]
        rfl) (by
      rintro t' ⟨⟩ -
      exact ⟨(), by rw [m_X1_positionChildren_p14, if_pos (by decide), nI_1]; rfl, trivial⟩) 4 0 n () rfl (by omega) trivial
    exact e) (by
    rintro t ⟨⟩ -
    exact ⟨_, by rw [m_X1_positionChildren_p4, h.i3, Option.bind_some, if_pos (Int32.le_refl _)], rfl⟩) qs.length 0 n () (by omega) (by omega) trivial
  exact e
end LQ
end
section
/-! WHAT THE REFERENCE TELLS OF A LEVEL -/
abbrev Iq (I I' : Nat → Int32) : Prop := ∀ k, k < 12 ∨ 15 < k → I' k = I k
theorem Iq.rf {I : Nat → Int32} : Iq I I := fun _ _ => rfl
theorem Iq.tr {I I' I2 : Nat → Int32} (h : Iq I I') (g : Iq I' I2) : Iq I I2 := fun k hk => (g k hk).trans (h k hk)
theorem Iq.set {I : Nat → Int32} {k : Nat} {x : Int32} (h : 12 ≤ k) (h2 : k ≤ 15) : Iq I (setI I k x) := fun j hj => setI_ne (by omega)
def kI (k : Nat) : Int32 := if k = 200000 then -1 else nI k
section RQ
variable {n b l : Nat} {w : Wd} {I : Nat → Int32} {J : Nat → Int64} {A : Rw} {S : Nat → Int32}
theorem cnt_on (S : Nat → Int32) (l : Nat) : cB (onB S l) 24 = (cdS S l).length := by
  have := onL_all (S := S) (l := l) (g := fun _ => true)
  have e := congrArg List.length this
  rw [List.filter_eq_self.mpr (fun _ _ => rfl)] at e
  rw [← e]
  unfold onL
  rw [List.length_map, cB_range]
  congr 1
  exact List.filter_congr fun i _ => by rw [Bool.and_true]
theorem mnL_4096 : ∀ l : List Nat, mnL l ≤ 4096
  | [] => Nat.le_refl _
  | a :: l => by
    have := mnL_4096 l
    simp only [mnL]
    omega
theorem nds_lt (hw : WF S) {x : Nat} (hx : x ∈ nds S l) : x < 2 ^ 31 := by
  have := node_lt (cdS_12 hw) (((nds_of hw l).2 x).mp hx)
  omega
end RQ
end
