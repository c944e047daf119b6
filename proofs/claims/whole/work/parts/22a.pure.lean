/-! LEVELS: squares that hold codes, quadrants, children: no memory here (but for the small functions of numbers) -/
theorem nx_xor (a b : Nat) : nI a ^^^ nI b = nI (a ^^^ b) := by
  apply Int32.toBitVec_inj.1
  show BitVec.ofNat 32 a ^^^ BitVec.ofNat 32 b = BitVec.ofNat 32 (a ^^^ b)
  apply BitVec.eq_of_getLsbD_eq
  intro i hi
  simp [hi]
def hB (q c : Nat) : Bool := decide (c / 4 ^ sqE q = q / 8 / 4 ^ sqE q)
theorem xor_div {c d e : Nat} : (c ^^^ d) / 4 ^ e = 0 ↔ c / 4 ^ e = d / 4 ^ e := by
  rw [← p4, ← Nat.shiftRight_eq_div_pow, ← Nat.shiftRight_eq_div_pow, ← Nat.shiftRight_eq_div_pow, Nat.shiftRight_xor_distrib]
  constructor
  · intro h
    apply Nat.eq_of_testBit_eq
    intro i
    have := congrArg (fun x => x.testBit i) h
    simp only [Nat.testBit_xor, Nat.zero_testBit] at this
    revert this
    cases (c >>> (2 * e)).testBit i <;> cases (d >>> (2 * e)).testBit i <;> simp
  · intro h
    rw [h, Nat.xor_self]
theorem xor_lt {c d : Nat} (hc : c < 2 ^ 31) (hd : d < 2 ^ 31) : c ^^^ d < 2 ^ 31 := Nat.xor_lt_two_pow hc hd
theorem k_holds {q c : Nat} (hq : q < 2 ^ 31) (h6 : q % 8 ≤ 6) (hc : c < 2 ^ 31) : m_X7_holds (nI q) (nI c) = if hB q c then 1 else 0 := by
  unfold m_X7_holds
  rw [k_firstOf, k_span, sq_corner hq, sq_exp hq h6, shr2 (div_lt31 hq) (sqE_le q), shr2 hc (sqE_le q)]
  by_cases h : c / 4 ^ sqE q = q / 8 / 4 ^ sqE q
  · rw [if_pos (by rw [h]), show hB q c = true from decide_eq_true h, if_pos rfl]
  · rw [if_neg (fun z => h ((nI_eq (div_lt31 (div_lt31 hq)) (div_lt31 hc)).mp z).symm), show hB q c = false from decide_eq_false h, if_neg (by decide)]
theorem m_holds {q c : Nat} (hq : q < 2 ^ 31) (h6 : q % 8 ≤ 6) (hc : c < 2 ^ 31) : m_X3_holds (nI q) (nI c) = if hB q c then 1 else 0 := by
  unfold m_X3_holds
  rw [sq_corner hq, sq_exp hq h6, nx_xor, shr2 (xor_lt hc (div_lt31 hq)) (sqE_le q)]
  by_cases h : c / 4 ^ sqE q = q / 8 / 4 ^ sqE q
  · rw [if_pos (by rw [xor_div.mpr h]; rfl), show hB q c = true from decide_eq_true h, if_pos rfl]
  · rw [if_neg (show ¬ nI ((c ^^^ q / 8) / 4 ^ sqE q) = 0 from fun z => h (xor_div.mp ((nI_eq (b := 0) (div_lt31 (xor_lt hc (div_lt31 hq))) (by decide)).mp z))), show hB q c = false from decide_eq_false h, if_neg (by decide)]
theorem m_quad {q c : Nat} (hq : q < 2 ^ 31) (h6 : q % 8 ≤ 6) (h0 : 1 ≤ sqE q) (hc : c < 2 ^ 31) : m_X3_quadrant (nI q) (nI c) = nI (c / 4 ^ (sqE q - 1) % 4) := by
  unfold m_X3_quadrant
  rw [sq_exp hq h6, shr2m hc h0 (sqE_le q)]
  exact pk_andN (Nat.lt_trans (div_lt31 hc) (by decide)) 2 rfl
/-! squares by corner and exponent -/
theorem sq_mod {c e : Nat} (he : e ≤ 6) : sq c e % 8 = 6 - e := by unfold sq; omega
theorem sq_cor {c e : Nat} (he : e ≤ 6) : sq c e / 8 = c / 4 ^ e * 4 ^ e := by unfold sq; omega
theorem sq_e {c e : Nat} (he : e ≤ 6) : sqE (sq c e) = e := by
  unfold sqE
  rw [sq_mod he]
  omega
theorem sq_hB {c d e : Nat} (he : e ≤ 6) : hB (sq c e) d = decide (d / 4 ^ e = c / 4 ^ e) := by
  unfold hB
  rw [sq_e he, sq_cor he, Nat.mul_div_cancel _ (Nat.pow_pos (by decide))]
theorem node_ex {cs : List Nat} (hc : C12 cs) {q : Nat} (h : isNode cs q) : ∃ c e, c < 4096 ∧ 1 ≤ e ∧ e ≤ 6 ∧ q = sq c e ∧ (q = 0 ∨ e ≤ 5 ∧ c ∈ cs ∧ ∃ d, d ∈ cs ∧ spl e c d) := by
  rcases h with h | ⟨e, c, d, h1, h2, h3, h4, h5, rfl⟩
  · exact ⟨0, 6, by decide, by decide, by decide, by rw [h]; decide, Or.inl h⟩
  · exact ⟨c, e, hc c h3, h1, by omega, rfl, Or.inr ⟨h2, h3, d, h4, h5⟩⟩
theorem node_m {cs : List Nat} (hc : C12 cs) {q : Nat} (h : isNode cs q) : q < 40000 ∧ q % 8 ≤ 6 ∧ 1 ≤ sqE q ∧ q / 8 < 4096 := by
  obtain ⟨c, e, h1, h2, h3, rfl, -⟩ := node_ex hc h
  have : c / 4 ^ e * 4 ^ e ≤ c := Nat.div_mul_le_self _ _
  exact ⟨node_lt hc h, by rw [sq_mod h3]; omega, by rw [sq_e h3]; exact h2, by rw [sq_cor h3]; omega⟩
theorem dv_up {a b i j : Nat} (h : a / 4 ^ i = b / 4 ^ i) (hij : i ≤ j) : a / 4 ^ j = b / 4 ^ j := by
  obtain ⟨k, rfl⟩ : ∃ k, j = i + k := ⟨j - i, by omega⟩
  rw [Nat.pow_add, ← Nat.div_div_eq_div_mul, ← Nat.div_div_eq_div_mul, h]
/-! the codes in a quadrant -/
def inQ (q d c : Nat) : Bool := decide (c / 4 ^ (sqE q - 1) = q / 8 / 4 ^ (sqE q - 1) + d)
theorem inQ_sq {c0 e d c : Nat} (h1 : 1 ≤ e) (he : e ≤ 6) : inQ (sq c0 e) d c = decide (c / 4 ^ (e - 1) = c0 / 4 ^ e * 4 + d) := by
  unfold inQ
  rw [sq_e he, sq_cor he]
  have : c0 / 4 ^ e * 4 ^ e / 4 ^ (e - 1) = c0 / 4 ^ e * 4 := by
    obtain ⟨k, rfl⟩ : ∃ k, e = k + 1 := ⟨e - 1, by omega⟩
    rw [Nat.add_sub_cancel, Nat.pow_succ (m := k), Nat.mul_comm (4 ^ k) 4, ← Nat.mul_assoc, Nat.mul_div_cancel _ (Nat.pow_pos (by decide)), Nat.mul_comm 4 (4 ^ k)]
  rw [this]
theorem dv_s {c e : Nat} (h1 : 1 ≤ e) : c / 4 ^ e = c / 4 ^ (e - 1) / 4 := by
  obtain ⟨k, rfl⟩ : ∃ k, e = k + 1 := ⟨e - 1, by omega⟩
  rw [Nat.add_sub_cancel, Nat.pow_succ, Nat.div_div_eq_div_mul]
/-- the class's test: held, and in the quadrant -/
theorem inQ_hB {c0 e d c : Nat} (h1 : 1 ≤ e) (he : e ≤ 6) (hd : d < 4) : inQ (sq c0 e) d c = (hB (sq c0 e) c && decide (c / 4 ^ (e - 1) % 4 = d)) := by
  rw [inQ_sq h1 he, sq_hB he, dv_s (c := c) h1]
  by_cases h : c / 4 ^ (e - 1) = c0 / 4 ^ e * 4 + d
  · rw [decide_eq_true h, decide_eq_true (show c / 4 ^ (e - 1) / 4 = c0 / 4 ^ e by omega), decide_eq_true (show c / 4 ^ (e - 1) % 4 = d by omega)]
    rfl
  · rw [decide_eq_false h]
    by_cases g : c / 4 ^ (e - 1) / 4 = c0 / 4 ^ e
    · rw [decide_eq_true g, decide_eq_false (show ¬ c / 4 ^ (e - 1) % 4 = d by omega)]
      rfl
    · rw [decide_eq_false g]
      rfl
def mnL : List Nat → Nat
  | [] => 4096
  | a :: l => min a (mnL l)
def mxL : List Nat → Nat
  | [] => 0
  | a :: l => max a (mxL l)
theorem mnL_perm {l m : List Nat} (h : l.Perm m) : mnL l = mnL m := by
  induction h with
  | nil => rfl
  | cons x _ ih => simp only [mnL, ih]
  | swap x y l => simp only [mnL]; omega
  | trans _ _ h1 h2 => exact h1.trans h2
theorem mxL_perm {l m : List Nat} (h : l.Perm m) : mxL l = mxL m := by
  induction h with
  | nil => rfl
  | cons x _ ih => simp only [mxL, ih]
  | swap x y l => simp only [mxL]; omega
  | trans _ _ h1 h2 => exact h1.trans h2
theorem mnL_app {l : List Nat} {x : Nat} (hx : x ≤ 4096) : mnL (l ++ [x]) = min (mnL l) x := by
  induction l with
  | nil => simp only [List.nil_append, mnL]; omega
  | cons a l ih => simp only [List.cons_append, mnL, ih]; omega
theorem mxL_app {l : List Nat} {x : Nat} : mxL (l ++ [x]) = max (mxL l) x := by
  induction l with
  | nil => simp only [List.nil_append, mxL]; omega
  | cons a l ih => simp only [List.cons_append, mxL, ih]; omega
theorem mnL_le {l : List Nat} {x : Nat} (h : x ∈ l) : mnL l ≤ x := by
  induction l with
  | nil => cases h
  | cons a l ih =>
    rcases List.mem_cons.mp h with rfl | h
    · simp only [mnL]; omega
    · have := ih h
      simp only [mnL]; omega
theorem mxL_ge {l : List Nat} {x : Nat} (h : x ∈ l) : x ≤ mxL l := by
  induction l with
  | nil => cases h
  | cons a l ih =>
    rcases List.mem_cons.mp h with rfl | h
    · simp only [mxL]; omega
    · have := ih h
      simp only [mxL]; omega
theorem mnL_mem {l : List Nat} (h : l ≠ []) (hc : ∀ x ∈ l, x < 4096) : mnL l ∈ l := by
  induction l with
  | nil => exact absurd rfl h
  | cons a l ih =>
    by_cases g : l = []
    · subst g
      have := hc a List.mem_cons_self
      simp only [mnL]
      rw [Nat.min_eq_left (by omega)]
      exact List.mem_cons_self
    · have := ih g fun x hx => hc x (List.mem_cons_of_mem _ hx)
      simp only [mnL]
      rcases Nat.le_total a (mnL l) with q | q
      · rw [Nat.min_eq_left q]
        exact List.mem_cons_self
      · rw [Nat.min_eq_right q]
        exact List.mem_cons_of_mem _ this
theorem mxL_mem {l : List Nat} (h : l ≠ []) : mxL l ∈ l := by
  induction l with
  | nil => exact absurd rfl h
  | cons a l ih =>
    by_cases g : l = []
    · subst g
      simp only [mxL]
      rw [Nat.max_eq_left (Nat.zero_le _)]
      exact List.mem_cons_self
    · have := ih g
      simp only [mxL]
      rcases Nat.le_total a (mxL l) with q | q
      · rw [Nat.max_eq_right q]
        exact List.mem_cons_of_mem _ this
      · rw [Nat.max_eq_left q]
        exact List.mem_cons_self
/-- a child: 200000 for none, 100000 and a code for a position, or the node's number -/
def kidN (l : List Nat) (q d : Nat) : Nat := if (l.filter (inQ q d)).length = 0 then 200000 else if mnL (l.filter (inQ q d)) = mxL (l.filter (inQ q d)) then 100000 + mnL (l.filter (inQ q d)) else sq (mnL (l.filter (inQ q d))) (spn (mnL (l.filter (inQ q d))) (mxL (l.filter (inQ q d))))
theorem kidN_perm {l m : List Nat} (h : l.Perm m) {q d : Nat} : kidN l q d = kidN m q d := by
  have h1 := h.filter (inQ q d)
  unfold kidN
  rw [h1.length_eq, mnL_perm h1, mxL_perm h1]
theorem ne_of_len {l : List Nat} (h : ¬ l.length = 0) : l ≠ [] := fun q => h (by rw [q]; rfl)
/-- what is said of a child that is a node -/
theorem kid_node {cs : List Nat} (hc : C12 cs) {q d : Nat} (hq : isNode cs q) (hd : d < 4) (hl : ¬ (cs.filter (inQ q d)).length = 0) (hm : ¬ mnL (cs.filter (inQ q d)) = mxL (cs.filter (inQ q d))) :
    ∃ e, 1 ≤ e ∧ e < sqE q ∧ kidN cs q d = sq (mnL (cs.filter (inQ q d))) e ∧ spl e (mnL (cs.filter (inQ q d))) (mxL (cs.filter (inQ q d))) ∧ isNode cs (kidN cs q d) ∧ q < kidN cs q d ∧ mnL (cs.filter (inQ q d)) ∈ cs ∧
    ∀ p, isNode cs p → q < p → p < kidN cs q d → hB p (mnL (cs.filter (inQ q d))) = false := by
  obtain ⟨c0, E, h1, h2, h3, rfl, -⟩ := node_ex hc hq
  generalize em : cs.filter (inQ (sq c0 E) d) = m at hl hm ⊢
  have hmem : ∀ x, x ∈ m ↔ x ∈ cs ∧ x / 4 ^ (E - 1) = c0 / 4 ^ E * 4 + d := fun x => by
    rw [← em, List.mem_filter, inQ_sq h2 h3, decide_eq_true_eq]
  have hc2 : ∀ x ∈ m, x < 4096 := fun x hx => hc x ((hmem x).mp hx).1
  have m1 := mnL_mem (ne_of_len hl) hc2
  have m2 := mxL_mem (ne_of_len hl)
  obtain ⟨a1, a2⟩ := (hmem _).mp m1
  obtain ⟨b1, b2⟩ := (hmem _).mp m2
  obtain ⟨e, e1, e2, e3, e4⟩ := spn_key (hc2 _ m1) (hc2 _ m2) hm
  have heE : e < E := by
    rcases Nat.lt_or_ge e E with g | g
    · exact g
    · exact absurd (dv_up (a2.trans b2.symm) (show E - 1 ≤ e - 1 by omega)) e4.2
  have hk : kidN cs (sq c0 E) d = sq (mnL m) e := by
    unfold kidN
    rw [em, if_neg hl, if_neg hm, e3]
  have hnd : isNode cs (sq (mnL m) e) := Or.inr ⟨e, _, _, e1, by omega, a1, b1, e4, rfl⟩
  have hlt : sq c0 E < sq (mnL m) e := by
    by_cases g : E = 6
    · subst g
      have : sq c0 6 = 0 := by
        unfold sq
        show c0 / 4096 * 4096 * 8 + 6 - 6 = 0
        omega
      rw [this]
      exact sq_pos (by omega)
    · have : sq c0 E = sq (mnL m) E := sq_cong (by
        rw [dv_s (c := mnL m) h2, a2]
        omega)
      rw [this]
      exact sq_lt2 e1 heE (by omega)
  refine ⟨e, e1, by rw [sq_e h3]; exact heE, hk, e4, by rw [hk]; exact hnd, by rw [hk]; exact hlt, a1, fun p hp p1 p2 => ?_⟩
  rw [hk] at p2
  obtain ⟨c, f, f1, f2, f3, rfl, f4⟩ := node_ex hc hp
  rw [sq_hB f3]
  refine decide_eq_false fun g => ?_
  rcases f4 with f4 | ⟨f4, f5, c', f6, f7⟩
  · omega
  · have hp : sq c f = sq (mnL m) f := sq_cong g.symm
    rw [hp] at p1 p2
    have k1 : e < f := by
      rcases Nat.lt_or_ge e f with z | z
      · exact z
      · rcases Nat.lt_or_ge f e with y | y
        · have := sq_lt2 (x := mnL m) f2 y (by omega)
          omega
        · have : e = f := by omega
          subst this
          omega
    have k2 : f < E := by
      rcases Nat.lt_or_ge f E with z | z
      · exact z
      · have hE : sq c0 E = sq (mnL m) E := sq_cong (by
          rw [dv_s (c := mnL m) h2, a2]
          omega)
        rw [hE] at p1
        rcases Nat.lt_or_ge E f with y | y
        · have := sq_lt2 (x := mnL m) h2 y f4
          omega
        · have : E = f := by omega
          subst this
          omega
    have i1 : c ∈ m := (hmem c).mpr ⟨f5, (dv_up g.symm (show f ≤ E - 1 by omega)).trans a2⟩
    have i2 : c' ∈ m := (hmem c').mpr ⟨f6, (dv_up (f7.1.symm.trans g.symm) (show f ≤ E - 1 by omega)).trans a2⟩
    have j1 : mnL m / 4 ^ e ≤ c / 4 ^ e := Nat.div_le_div_right (mnL_le i1)
    have j2 : c / 4 ^ e ≤ mxL m / 4 ^ e := Nat.div_le_div_right (mxL_ge i1)
    have j3 : mnL m / 4 ^ e ≤ c' / 4 ^ e := Nat.div_le_div_right (mnL_le i2)
    have j4 : c' / 4 ^ e ≤ mxL m / 4 ^ e := Nat.div_le_div_right (mxL_ge i2)
    have j5 := e4.1
    exact f7.2 (dv_up (show c / 4 ^ e = c' / 4 ^ e by omega) (show e ≤ f - 1 by omega))
/-- the three kinds of children -/
theorem kid_c {cs : List Nat} (hc : C12 cs) {q d : Nat} (hq : isNode cs q) (hd : d < 4 := by omega) :
    ((cs.filter (inQ q d)).length = 0 ∧ kidN cs q d = 200000) ∨
    (¬ (cs.filter (inQ q d)).length = 0 ∧ mnL (cs.filter (inQ q d)) = mxL (cs.filter (inQ q d)) ∧ kidN cs q d = 100000 + mnL (cs.filter (inQ q d)) ∧ mnL (cs.filter (inQ q d)) < 4096) ∨
    (¬ (cs.filter (inQ q d)).length = 0 ∧ ¬ mnL (cs.filter (inQ q d)) = mxL (cs.filter (inQ q d)) ∧ kidN cs q d < 40000 ∧ isNode cs (kidN cs q d)) := by
  by_cases h1 : (cs.filter (inQ q d)).length = 0
  · left
    exact ⟨h1, by unfold kidN; rw [if_pos h1]⟩
  · right
    by_cases h2 : mnL (cs.filter (inQ q d)) = mxL (cs.filter (inQ q d))
    · left
      exact ⟨h1, h2, by unfold kidN; rw [if_neg h1, if_pos h2], hc _ (List.mem_filter.mp (mnL_mem (ne_of_len h1) fun x hx => hc x (List.mem_filter.mp hx).1)).1⟩
    · right
      obtain ⟨e, -, -, -, -, h3, -⟩ := kid_node hc hq hd h1 h2
      exact ⟨h1, h2, node_lt hc h3, h3⟩
/-! the number of a node in a row of nodes -/
def ixN : List Nat → Nat → Nat
  | [], _ => 0
  | a :: l, x => if a = x then 0 else ixN l x + 1
theorem ixN_at : ∀ {l : List Nat} {i : Nat}, Asc l → i < l.length → ixN l (l.getD i 0) = i
  | a :: l, 0, _, _ => by unfold ixN; exact if_pos rfl
  | a :: l, i + 1, h, hi => by
    have h1 : i < l.length := by rw [List.length_cons] at hi; omega
    have h2 : l.getD i 0 ∈ l := getD_mem h1
    have := asc_head h _ h2
    unfold ixN
    rw [List.getD_cons_succ, if_neg (by omega), ixN_at (asc_tail h) h1]
theorem ixN_mem {l : List Nat} {x : Nat} (ha : Asc l) (h : x ∈ l) : ixN l x < l.length ∧ l.getD (ixN l x) 0 = x := by
  obtain ⟨i, hi, rfl⟩ := mem_getD h
  rw [ixN_at ha hi]
  exact ⟨hi, rfl⟩
/-- what both tell of a child -/
def tell (qs : List Nat) (k : Nat) : Int32 := if k = 200000 then -1 else if 100000 ≤ k then nI (1000 + 64 * yN (k - 100000) + xN (k - 100000)) else nI (ixN qs k)
/-! counting -/
theorem cB_range (p : Nat → Bool) : ∀ k, cB p k = ((List.range k).filter p).length
  | 0 => rfl
  | k + 1 => by
    unfold cB
    rw [List.range_succ, List.filter_append, List.length_append, cB_range p k]
    congr 1
    by_cases h : p k = true
    · rw [if_pos h, List.filter_cons_of_pos h]
      rfl
    · rw [if_neg h, List.filter_cons_of_neg h]
      rfl
theorem filt_app {l : List Nat} {x : Nat} (f : Nat → Bool) : (l ++ [x]).filter f = l.filter f ++ if f x then [x] else [] := by
  rw [List.filter_append]
  congr 1
  by_cases h : f x = true
  · rw [if_pos h, List.filter_cons_of_pos h]
    rfl
  · rw [if_neg h, List.filter_cons_of_neg h]
    rfl
/-- codes of the points on a level with a property, of the ids below k -/
def onB (S : Nat → Int32) (l i : Nat) : Bool := decide (S (5 * i) ≠ 0) && decide (l ≤ hgt i)
theorem onB_iff {S : Nat → Int32} {l i : Nat} (hi : i < 24) : onB S l i = true ↔ i ∈ onS S l := by
  unfold onB
  rw [onS_mem, Bool.and_eq_true, decide_eq_true_eq, decide_eq_true_eq]
  exact ⟨fun h => ⟨hi, h⟩, fun h => h.2⟩
def onL (S : Nat → Int32) (l : Nat) (g : Nat → Bool) (k : Nat) : List Nat := ((List.range k).filter fun i => onB S l i && g (codeS S i)).map (codeS S)
theorem onL_succ {S : Nat → Int32} {l k : Nat} {g : Nat → Bool} : onL S l g (k + 1) = onL S l g k ++ if onB S l k && g (codeS S k) then [codeS S k] else [] := by
  unfold onL
  rw [List.range_succ, filt_app, List.map_append]
  congr 1
  by_cases h : (onB S l k && g (codeS S k)) = true
  · rw [if_pos h, if_pos h]
    rfl
  · rw [if_neg h, if_neg h]
    rfl
theorem onL_all {S : Nat → Int32} {l : Nat} {g : Nat → Bool} : onL S l g 24 = (cdS S l).filter g := by
  unfold onL cdS onS idsS
  rw [List.filter_map, List.filter_filter, List.filter_filter]
  congr 1
  refine List.filter_congr fun i _ => ?_
  unfold onB
  show (decide (S (5 * i) ≠ 0) && decide (l ≤ hgt i) && g (codeS S i)) = (g (codeS S i) && decide (l ≤ hgt i) && decide (S (5 * i) ≠ 0))
  cases decide (S (5 * i) ≠ 0) <;> cases decide (l ≤ hgt i) <;> cases g (codeS S i) <;> rfl
