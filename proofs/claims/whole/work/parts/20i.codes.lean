/-! CODES OF POSITIONS, HEIGHTS: small enough to be looked through -/
def codeN (x y : Nat) : Nat := (m_X3_code (nI x) (nI y)).toNatClampNeg
def xN (c : Nat) : Nat := (m_X3_xOf (nI c)).toNatClampNeg
def yN (c : Nat) : Nat := (m_X3_yOf (nI c)).toNatClampNeg
def hgt (i : Nat) : Nat := if (i + 1) % 2 ≠ 0 then 0 else if (i + 1) % 4 ≠ 0 then 1 else if (i + 1) % 8 ≠ 0 then 2 else if (i + 1) % 16 ≠ 0 then 3 else 4
set_option maxRecDepth 100000 in
theorem code6_all : ∀ x, x < 64 → ∀ y, y < 64 → m_X3_code (nI x) (nI y) = nI (codeN x y) ∧ codeN x y < 4096 := by decide +kernel
set_option maxRecDepth 100000 in
theorem xy6_all : ∀ c, c < 4096 → (m_X3_xOf (nI c) = nI (xN c) ∧ xN c < 64) ∧ m_X3_yOf (nI c) = nI (yN c) ∧ yN c < 64 := by decide +kernel
theorem cof_free (n : Nat) (w : Wd) (a b : Int32) : ∀ (t : Nat) (r i : Int32), m_X7_codeOf_p4 n t w a b r i = m_X7_codeOf_p4 0 t (fun _ => none) a b r i := by
  intro t
  induction t with
  | zero => intro r i; rfl
  | succ t ih =>
    intro r i
    rw [m_X7_codeOf_p4, m_X7_codeOf_p4]
    by_cases h : 6 ≤ i
    · rw [if_pos h, if_pos h]
    · rw [if_neg h, if_neg h]
      exact ih _ _
theorem cof_mono (n : Nat) (w : Wd) (a b : Int32) : ∀ (t k : Nat) (r i v : Int32), m_X7_codeOf_p4 n t w a b r i = some v → m_X7_codeOf_p4 n (t + k) w a b r i = some v := by
  intro t
  induction t with
  | zero => intro k r i v h; cases h
  | succ t ih =>
    intro k r i v h
    rw [Nat.add_right_comm, m_X7_codeOf_p4]
    rw [m_X7_codeOf_p4] at h
    by_cases g : 6 ≤ i
    · rw [if_pos g] at h ⊢
      exact h
    · rw [if_neg g] at h ⊢
      exact ih k _ _ v h
set_option maxRecDepth 100000 in
theorem code7_all : ∀ x, x < 64 → ∀ y, y < 64 → m_X7_codeOf_p4 0 8 (fun _ => none) (nI x) (nI y) 0 0 = some (nI (codeN x y)) := by decide +kernel
theorem m_codeOf {n : Nat} (hn : 8 ≤ n) {w : Wd} {x y : Nat} (hx : x < 64) (hy : y < 64) : m_X7_codeOf n w (nI x) (nI y) = some (nI (codeN x y)) := by
  have h := code7_all x hx y hy
  rw [← cof_free n w] at h
  have := cof_mono n w _ _ 8 (n - 8) _ _ _ h
  rw [show 8 + (n - 8) = n by omega] at this
  exact this
theorem xof_free (n : Nat) (w : Wd) (a : Int32) : ∀ (t : Nat) (r i : Int32), m_X7_xOf_p4 n t w a r i = m_X7_xOf_p4 0 t (fun _ => none) a r i := by
  intro t
  induction t with
  | zero => intro r i; rfl
  | succ t ih =>
    intro r i
    rw [m_X7_xOf_p4, m_X7_xOf_p4]
    by_cases h : 6 ≤ i
    · rw [if_pos h, if_pos h]
    · rw [if_neg h, if_neg h]
      exact ih _ _
theorem xof_mono (n : Nat) (w : Wd) (a : Int32) : ∀ (t k : Nat) (r i v : Int32), m_X7_xOf_p4 n t w a r i = some v → m_X7_xOf_p4 n (t + k) w a r i = some v := by
  intro t
  induction t with
  | zero => intro k r i v h; cases h
  | succ t ih =>
    intro k r i v h
    rw [Nat.add_right_comm, m_X7_xOf_p4]
    rw [m_X7_xOf_p4] at h
    by_cases g : 6 ≤ i
    · rw [if_pos g] at h ⊢
      exact h
    · rw [if_neg g] at h ⊢
      exact ih k _ _ v h
set_option maxRecDepth 100000 in
theorem x7_all : ∀ c, c < 4096 → m_X7_xOf_p4 0 8 (fun _ => none) (nI c) 0 0 = some (nI (xN c)) := by decide +kernel
set_option maxRecDepth 100000 in
theorem y7_all : ∀ c, c < 4096 → m_X7_xOf_p4 0 8 (fun _ => none) (nI c >>> (1 &&& 31 : Int32)) 0 0 = some (nI (yN c)) := by decide +kernel
theorem m_xOf {n : Nat} (hn : 8 ≤ n) {w : Wd} {c : Nat} (hc : c < 4096) : m_X7_xOf n w (nI c) = some (nI (xN c)) := by
  have h := x7_all c hc
  rw [← xof_free n w] at h
  have := xof_mono n w _ 8 (n - 8) _ _ _ h
  rw [show 8 + (n - 8) = n by omega] at this
  exact this
theorem m_yOf {n : Nat} (hn : 8 ≤ n) {w : Wd} {c : Nat} (hc : c < 4096) : m_X7_yOf n w (nI c) = some (nI (yN c)) := by
  have h := y7_all c hc
  rw [← xof_free n w] at h
  have := xof_mono n w _ 8 (n - 8) _ _ _ h
  rw [show 8 + (n - 8) = n by omega] at this
  show (m_X7_xOf_p4 n n w _ 0 0).bind _ = _
  rw [this, Option.bind_some]
theorem h6_free (n : Nat) (w : Wd) : ∀ (t : Nat) (r i : Int32), m_X6_heightOf_p6 n t w r i = m_X6_heightOf_p6 0 t (fun _ => none) r i := by
  intro t
  induction t with
  | zero => intro r i; rfl
  | succ t ih =>
    intro r i
    rw [m_X6_heightOf_p6, m_X6_heightOf_p6, ih]
theorem h6_mono (n : Nat) (w : Wd) : ∀ (t k : Nat) (r i v : Int32), m_X6_heightOf_p6 n t w r i = some v → m_X6_heightOf_p6 n (t + k) w r i = some v := by
  intro t
  induction t with
  | zero => intro k r i v h; cases h
  | succ t ih =>
    intro k r i v h
    rw [Nat.add_right_comm, m_X6_heightOf_p6]
    rw [m_X6_heightOf_p6] at h
    by_cases g : 4 ≤ r
    · rw [if_pos g] at h ⊢
      exact h
    · rw [if_neg g] at h ⊢
      by_cases g2 : jrm i 2 = 0
      · rw [if_pos g2] at h ⊢
        exact ih k _ _ v h
      · rw [if_neg g2] at h ⊢
        exact h
theorem h6_all : ∀ i, i < 24 → m_X6_heightOf_p6 0 8 (fun _ => none) 0 (nI i + 1) = some (nI (hgt i)) := by decide +kernel
theorem m_hgt6 {n : Nat} (hn : 8 ≤ n) {w : Wd} {i : Nat} (hi : i < 24) : m_X6_heightOf n w (nI i) = some (nI (hgt i)) := by
  have h := h6_all i hi
  rw [← h6_free n w] at h
  have := h6_mono n w 8 (n - 8) _ _ _ h
  rw [show 8 + (n - 8) = n by omega] at this
  exact this
theorem h7_free (n : Nat) (w : Wd) : ∀ (t : Nat) (r i : Int32), m_X7_heightOf_p6 n t w r i = m_X7_heightOf_p6 0 t (fun _ => none) r i := by
  intro t
  induction t with
  | zero => intro r i; rfl
  | succ t ih =>
    intro r i
    rw [m_X7_heightOf_p6, m_X7_heightOf_p6, ih]
theorem h7_mono (n : Nat) (w : Wd) : ∀ (t k : Nat) (r i v : Int32), m_X7_heightOf_p6 n t w r i = some v → m_X7_heightOf_p6 n (t + k) w r i = some v := by
  intro t
  induction t with
  | zero => intro k r i v h; cases h
  | succ t ih =>
    intro k r i v h
    rw [Nat.add_right_comm, m_X7_heightOf_p6]
    rw [m_X7_heightOf_p6] at h
    by_cases g2 : jrm i 2 = 0
    · rw [if_pos g2] at h ⊢
      exact ih k _ _ v h
    · rw [if_neg g2] at h ⊢
      exact h
theorem h7_all : ∀ i, i < 24 → m_X7_heightOf_p6 0 8 (fun _ => none) 0 (nI i + 1) = some (nI (hgt i)) := by decide +kernel
theorem m_hgt7 {n : Nat} (hn : 8 ≤ n) {w : Wd} {i : Nat} (hi : i < 24) : m_X7_heightOf n w (nI i) = some (nI (hgt i)) := by
  have h := h7_all i hi
  rw [← h7_free n w] at h
  have := h7_mono n w 8 (n - 8) _ _ _ h
  rw [show 8 + (n - 8) = n by omega] at this
  exact this
theorem hgt_le (i : Nat) : hgt i ≤ 4 := by
  unfold hgt
  repeat' split
  all_goals omega
/-- the least exponent at which two codes lie in one square -/
theorem m_spanOf {n : Nat} (hn : 8 ≤ n) {w : Wd} {c d : Nat} (hc : c < 4096) (hd : d < 4096) : m_X7_spanOf n w (nI c) (nI d) = some (nI (spn c d)) := by
  have key : ∀ e, e ≤ 6 → (nI c >>> ((2 * nI e) &&& 31 : Int32) = nI d >>> ((2 * nI e) &&& 31 : Int32) ↔ c / 4 ^ e = d / 4 ^ e) := fun e he => by
    rw [shr2 (lt31 hc) he, shr2 (lt31 hd) he]
    exact nI_eq (div_lt31 (lt31 hc)) (div_lt31 (lt31 hd))
  unfold m_X7_spanOf
  obtain ⟨r, h1, h2⟩ := lp (σ := Unit) (fun t k _ => m_X7_spanOf_p2 n t w (nI c) (nI d) (nI k)) (fun k _ => ∀ j, j < k → c / 4 ^ j ≠ d / 4 ^ j) (fun v => v = nI (spn c d)) 6 (by
    rintro t k ⟨⟩ hk hi
    by_cases g : c / 4 ^ k = d / 4 ^ k
    · right
      refine ⟨nI k, by rw [m_X7_spanOf_p2, if_pos ((key k (by omega)).mpr g)], ?_⟩
      rcases (show k = 0 ∨ k = 1 ∨ k = 2 ∨ k = 3 ∨ k = 4 ∨ k = 5 by omega) with rfl | rfl | rfl | rfl | rfl | rfl
      · rw [show c = d by simpa using g]; simp [spn]
      · rw [spl_spn (by decide) (by decide) ⟨g, hi 0 (by decide)⟩]
      · rw [spl_spn (by decide) (by decide) ⟨g, hi 1 (by decide)⟩]
      · rw [spl_spn (by decide) (by decide) ⟨g, hi 2 (by decide)⟩]
      · rw [spl_spn (by decide) (by decide) ⟨g, hi 3 (by decide)⟩]
      · rw [spl_spn (by decide) (by decide) ⟨g, hi 4 (by decide)⟩]
    · left
      refine ⟨(), by rw [m_X7_spanOf_p2, if_neg (fun q => g ((key k (by omega)).mp q)), nI_1], fun j hj => ?_⟩
      by_cases e : j = k
      · rw [e]; exact g
      · exact hi j (by omega)) (by
    rintro t ⟨⟩ hi
    refine ⟨nI 6, by rw [m_X7_spanOf_p2, if_pos ((key 6 (by decide)).mpr (by rw [Nat.div_eq_of_lt (by simpa using hc), Nat.div_eq_of_lt (by simpa using hd)]))], ?_⟩
    have q0 := hi 0 (by decide)
    have q1 := hi 1 (by decide)
    have q2 := hi 2 (by decide)
    have q3 := hi 3 (by decide)
    have q4 := hi 4 (by decide)
    have q5 := hi 5 (by decide)
    simp only [Nat.reducePow, Nat.pow_zero, Nat.div_one] at q0 q1 q2 q3 q4 q5
    unfold spn
    rw [if_neg q0, if_neg q1, if_neg q2, if_neg q3, if_neg q4, if_neg q5]) 6 0 n () rfl (by omega) (fun j hj => absurd hj (Nat.not_lt_zero _))
  rw [← h2]
  exact h1
