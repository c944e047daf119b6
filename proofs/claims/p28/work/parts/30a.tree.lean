/-! THE TREE OF A LEVEL'S NODES: what holds what, children, depths; no memory here -/
theorem fl_div {c e j : Nat} (h : e ≤ j) : c / 4 ^ e * 4 ^ e / 4 ^ j = c / 4 ^ j := by
  obtain ⟨k, rfl⟩ : ∃ k, j = e + k := ⟨j - e, by omega⟩
  rw [Nat.pow_add, ← Nat.div_div_eq_div_mul, ← Nat.div_div_eq_div_mul, Nat.mul_div_cancel _ (Nat.pow_pos (by decide))]
theorem fl_le {c e j : Nat} (h : e ≤ j) : c / 4 ^ j * 4 ^ j ≤ c / 4 ^ e * 4 ^ e := by
  have := Nat.div_mul_le_self (c / 4 ^ e * 4 ^ e) (4 ^ j)
  rw [fl_div h] at this
  exact this
/-- a node's own numbers -/
theorem node_p {cs : List Nat} (hc : C12 cs) {q : Nat} (h : isNode cs q) : ∃ c e, 1 ≤ e ∧ e ≤ 6 ∧ c < 4096 ∧ q = sq c e ∧ sqE q = e ∧ q / 8 = c / 4 ^ e * 4 ^ e := by
  obtain ⟨c, e, h1, h2, h3, rfl, -⟩ := node_ex hc h
  exact ⟨c, e, h2, h3, h1, rfl, sq_e h3, sq_cor h3⟩
def sup (q r : Nat) : Bool := decide (sqE r < sqE q) && hB q (r / 8)
theorem sup_iff {q r : Nat} : sup q r = true ↔ sqE r < sqE q ∧ hB q (r / 8) = true := by
  unfold sup
  rw [Bool.and_eq_true, decide_eq_true_eq]
theorem hB_iff {q c : Nat} : hB q c = true ↔ c / 4 ^ sqE q = q / 8 / 4 ^ sqE q := decide_eq_true_iff
theorem inQ_iff {q d c : Nat} : inQ q d c = true ↔ c / 4 ^ (sqE q - 1) = q / 8 / 4 ^ (sqE q - 1) + d := decide_eq_true_iff
/-- nodes by their exponents and corners -/
theorem node_eq {cs : List Nat} (hc : C12 cs) {q r : Nat} (hq : isNode cs q) (hr : isNode cs r) (he : sqE q = sqE r) (h : hB q (r / 8) = true) : q = r := by
  obtain ⟨c, e, h1, h2, h3, rfl, h5, h6⟩ := node_p hc hq
  obtain ⟨c', e', g1, g2, g3, rfl, g5, g6⟩ := node_p hc hr
  rw [h5, g5] at he
  subst he
  rw [hB_iff, h5, h6, g6, fl_div (Nat.le_refl _), fl_div (Nat.le_refl _)] at h
  exact sq_cong h.symm
theorem nest {cs : List Nat} (hc : C12 cs) {q r x : Nat} (hr : isNode cs r) (hle : sqE r ≤ sqE q) (h1 : hB q x = true) (h2 : hB r x = true) : hB q (r / 8) = true := by
  obtain ⟨c', e', g1, g2, g3, rfl, g5, g6⟩ := node_p hc hr
  rw [hB_iff] at h1 h2 ⊢
  rw [g5] at hle h2
  rw [g6, fl_div (Nat.le_refl _)] at h2
  rw [← h1, g6, ← h2, fl_div hle]
theorem hB_self {cs : List Nat} {q : Nat} : hB q (q / 8) = true := hB_iff.mpr rfl
theorem sup_lt {cs : List Nat} (hc : C12 cs) {q r : Nat} (hq : isNode cs q) (hr : isNode cs r) (h : sup q r = true) : q < r := by
  obtain ⟨c, e, h1, h2, h3, rfl, h5, h6⟩ := node_p hc hq
  obtain ⟨c', e', g1, g2, g3, rfl, g5, g6⟩ := node_p hc hr
  obtain ⟨a, b⟩ := sup_iff.mp h
  rw [h5, g5] at a
  rw [hB_iff, h5, h6, g6, fl_div (Nat.le_of_lt a), fl_div (Nat.le_refl _)] at b
  have := fl_le (c := c') (Nat.le_of_lt a)
  rw [b] at this
  unfold sq
  omega
theorem lt_sup {cs : List Nat} (hc : C12 cs) {q r : Nat} (hq : isNode cs q) (hr : isNode cs r) (hlt : q < r) (h : hB q (r / 8) = true) : sup q r = true := by
  refine sup_iff.mpr ⟨?_, h⟩
  obtain ⟨c, e, h1, h2, h3, rfl, h5, h6⟩ := node_p hc hq
  obtain ⟨c', e', g1, g2, g3, rfl, g5, g6⟩ := node_p hc hr
  rw [h5, g5]
  rw [hB_iff, h5, h6, g6, fl_div (Nat.le_refl _)] at h
  rcases Nat.lt_or_ge e' e with z | z
  · exact z
  · have k : c' / 4 ^ e' * 4 ^ e' / 4 ^ e * 4 ^ e = c' / 4 ^ e' * 4 ^ e' := by
      obtain ⟨k, rfl⟩ : ∃ k, e' = e + k := ⟨e' - e, by omega⟩
      rw [Nat.pow_add, Nat.mul_comm (4 ^ e) (4 ^ k), ← Nat.mul_assoc, Nat.mul_div_cancel _ (Nat.pow_pos (by decide))]
    rw [h] at k
    unfold sq at hlt
    omega
/-- who holds a square that holds another holds that one -/
theorem sup_trans {q r t : Nat} {cs : List Nat} (hc : C12 cs) (hr : isNode cs r) (h1 : sup q r = true) (h2 : sup r t = true) : sup q t = true := by
  obtain ⟨a1, a2⟩ := sup_iff.mp h1
  obtain ⟨b1, b2⟩ := sup_iff.mp h2
  refine sup_iff.mpr ⟨Nat.lt_trans b1 a1, ?_⟩
  obtain ⟨c', e', g1, g2, g3, rfl, g5, g6⟩ := node_p hc hr
  rw [hB_iff] at a2 b2 ⊢
  rw [g5] at b2 a1
  rw [← a2]
  have := dv_up b2 (Nat.le_of_lt a1)
  rw [this]
theorem hB_sup {q r x : Nat} (h1 : sup q r = true) (h2 : hB r x = true) : hB q x = true := by
  obtain ⟨a1, a2⟩ := sup_iff.mp h1
  rw [hB_iff] at a2 h2 ⊢
  rw [← a2]
  exact dv_up h2 (Nat.le_of_lt a1)
/-- the quadrant of what is held -/
theorem inQ_of {cs : List Nat} (hc : C12 cs) {q x : Nat} (hq : isNode cs q) (h : hB q x = true) : inQ q (x / 4 ^ (sqE q - 1) % 4) x = true := by
  obtain ⟨c, e, h1, h2, h3, rfl, h5, h6⟩ := node_p hc hq
  rw [h5, inQ_hB h1 h2 (Nat.mod_lt _ (by decide)), h]
  simp
theorem inQ_un {cs : List Nat} (hc : C12 cs) {q x d : Nat} (hq : isNode cs q) (hd : d < 4) (h : inQ q d x = true) : hB q x = true ∧ d = x / 4 ^ (sqE q - 1) % 4 := by
  obtain ⟨c, e, h1, h2, h3, rfl, h5, h6⟩ := node_p hc hq
  rw [inQ_hB h1 h2 hd, Bool.and_eq_true, decide_eq_true_eq] at h
  rw [h5]
  exact ⟨h.1, h.2.symm⟩
/-- a smaller node in a quadrant: its codes are there -/
theorem sub_codes {cs : List Nat} (hc : C12 cs) {q r d : Nat} (hr : isNode cs r) (hre : sqE r < sqE q) (h6 : sqE q ≤ 6) (hin : inQ q d (r / 8) = true) :
    ∃ c c2, c ∈ cs ∧ c2 ∈ cs ∧ spl (sqE r) c c2 ∧ inQ q d c = true ∧ inQ q d c2 = true ∧ r = sq c (sqE r) ∧ 1 ≤ sqE r ∧ sqE r ≤ 5 := by
  rcases hr with rfl | ⟨e, c, c2, h1, h2, h3, h4, h5, rfl⟩
  · exact absurd hre (by unfold sqE at *; omega)
  · have he : sqE (sq c e) = e := sq_e (by omega)
    rw [he] at hre ⊢
    rw [inQ_iff, sq_cor (by omega), fl_div (by omega)] at hin
    refine ⟨c, c2, h3, h4, h5, inQ_iff.mpr hin, inQ_iff.mpr ?_, rfl, h1, h2⟩
    rw [← dv_up h5.1 (show e ≤ sqE q - 1 by omega)]
    exact hin
theorem mid_div {a b x s : Nat} (h : a / 4 ^ s = b / 4 ^ s) (h1 : a ≤ x) (h2 : x ≤ b) : x / 4 ^ s = a / 4 ^ s := by
  have q1 := Nat.div_le_div_right (c := 4 ^ s) h1
  have q2 := Nat.div_le_div_right (c := 4 ^ s) h2
  omega
/-- a node in a quadrant lies in the child there -/
theorem kid_sup {cs : List Nat} (hc : C12 cs) {q r d : Nat} (hq : isNode cs q) (hr : isNode cs r) (hd : d < 4) (hre : sqE r < sqE q) (hin : inQ q d (r / 8) = true) :
    isNode cs (kidN cs q d) ∧ kidN cs q d < 40000 ∧ sqE r ≤ sqE (kidN cs q d) ∧ hB (kidN cs q d) (r / 8) = true := by
  obtain ⟨c, c2, h1, h2, h3, h4, h5, h6, h7, h8⟩ := sub_codes hc hr hre (sqE_le q) hin
  have m1 : c ∈ cs.filter (inQ q d) := List.mem_filter.mpr ⟨h1, h4⟩
  have m2 : c2 ∈ cs.filter (inQ q d) := List.mem_filter.mpr ⟨h2, h5⟩
  have hl : ¬ (cs.filter (inQ q d)).length = 0 := fun z => by
    rw [List.length_eq_zero_iff] at z
    rw [z] at m1
    cases m1
  have n1 := mnL_le m1
  have n2 := mnL_le m2
  have x1 := mxL_ge m1
  have x2 := mxL_ge m2
  have hne : c ≠ c2 := fun z => h3.2 (by rw [z])
  have hm : ¬ mnL (cs.filter (inQ q d)) = mxL (cs.filter (inQ q d)) := fun z => hne (by omega)
  obtain ⟨s, s1, s2, s3, s4, s5, -, -, -⟩ := kid_node hc hq hd hl hm
  have hq6 := sqE_le q
  have e1 := mid_div s4.1 n1 x1
  have e2 := mid_div s4.1 n2 x2
  have hs : sqE r ≤ s := by
    rcases Nat.lt_or_ge s (sqE r) with z | z
    · exact absurd (dv_up (e1.trans e2.symm) (show s ≤ sqE r - 1 by omega)) h3.2
    · exact z
  have hk : sqE (kidN cs q d) = s := by rw [s3]; exact sq_e (by omega)
  refine ⟨s5, node_lt hc s5, by rw [hk]; exact hs, ?_⟩
  rw [hB_iff, hk, s3, sq_cor (by omega), fl_div (Nat.le_refl _), h6, sq_cor (by omega)]
  rw [fl_div hs, e1]
/-- a child that is a node -/
theorem kid_in {cs : List Nat} (hc : C12 cs) {q d : Nat} (hq : isNode cs q) (hd : d < 4) (hk : kidN cs q d < 40000) : isNode cs (kidN cs q d) ∧ inQ q d (kidN cs q d / 8) = true ∧ sup q (kidN cs q d) = true := by
  rcases kid_c hc hq hd with ⟨-, h⟩ | ⟨-, -, h, -⟩ | ⟨h1, h2, -, h4⟩
  · omega
  · omega
  · obtain ⟨s, s1, s2, s3, s4, s5, -, s7, -⟩ := kid_node hc hq hd h1 h2
    have hq6 := sqE_le q
    have m1 := mnL_mem (ne_of_len h1) (fun x hx => hc x (List.mem_filter.mp hx).1)
    have q1 := (List.mem_filter.mp m1).2
    have q2 : inQ q d (kidN cs q d / 8) = true := by
      rw [inQ_iff, s3, sq_cor (by omega), fl_div (by omega)]
      exact inQ_iff.mp q1
    refine ⟨h4, q2, sup_iff.mpr ⟨?_, (inQ_un hc hq hd q2).1⟩⟩
    rw [s3, sq_e (by omega)]
    exact s2
/-- a child that is a position -/
theorem kid_pos {cs : List Nat} (hc : C12 cs) {q d : Nat} (hq : isNode cs q) (hd : d < 4) (h1 : 40000 ≤ kidN cs q d) (h2 : kidN cs q d ≠ 200000) : ∃ c, c ∈ cs ∧ kidN cs q d = 100000 + c ∧ inQ q d c = true ∧ ∀ x, x ∈ cs → inQ q d x = true → x = c := by
  rcases kid_c hc hq hd with ⟨-, h⟩ | ⟨h, h3, h4, -⟩ | ⟨-, -, h, -⟩
  · exact absurd h h2
  · have m1 := mnL_mem (ne_of_len h) (fun x hx => hc x (List.mem_filter.mp hx).1)
    refine ⟨_, (List.mem_filter.mp m1).1, h4, (List.mem_filter.mp m1).2, fun x hx hi => ?_⟩
    have m2 : x ∈ cs.filter (inQ q d) := List.mem_filter.mpr ⟨hx, hi⟩
    have a1 := mnL_le m2
    have a2 := mxL_ge m2
    omega
  · omega
/-- a quadrant without a child has no codes -/
theorem kid_none {cs : List Nat} (hc : C12 cs) {q d x : Nat} (hq : isNode cs q) (hd : d < 4) (hx : x ∈ cs) (hi : inQ q d x = true) : kidN cs q d ≠ 200000 := by
  intro h
  rcases kid_c hc hq hd with ⟨h1, -⟩ | ⟨-, -, h4, h5⟩ | ⟨-, -, h4, -⟩
  · rw [List.length_eq_zero_iff] at h1
    have m1 : x ∈ cs.filter (inQ q d) := List.mem_filter.mpr ⟨hx, hi⟩
    rw [h1] at m1
    cases m1
  · omega
  · omega
