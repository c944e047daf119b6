/-! DISTANCES: pairs, cursors -/
def dsq (a b : Nat) : Nat := (a - b + (b - a)) * (a - b + (b - a))
theorem dsq_all : ∀ a, a < 64 → ∀ b, b < 64 → (nI a - nI b) * (nI a - nI b) = nI (dsq a b) ∧ dsq a b ≤ 3969 := by decide +kernel
def pxN (S : Nat → Int32) (i : Nat) : Nat := (S (5 * i + 1)).toNatClampNeg
def pyN (S : Nat → Int32) (i : Nat) : Nat := (S (5 * i + 2)).toNatClampNeg
theorem N64.cl {v : Int32} (h : N64 v) : v.toNatClampNeg < 64 ∧ v = nI v.toNatClampNeg := by
  obtain ⟨x, hx, rfl⟩ := h
  rw [nI_clamp (by omega)]
  exact ⟨hx, rfl⟩
def dN (S : Nat → Int32) (i x y : Nat) : Nat := dsq (pxN S i) x + dsq (pyN S i) y
def pN (S : Nat → Int32) (x y i : Nat) : Nat := dN S i x y * 32 + i
theorem dN_ok {S : Nat → Int32} (hw : WF S) {i x y : Nat} (hi : i < 24) (hx : x < 64) (hy : y < 64) : (S (5 * i + 1) - nI x) * (S (5 * i + 1) - nI x) + (S (5 * i + 2) - nI y) * (S (5 * i + 2) - nI y) = nI (dN S i x y) ∧ dN S i x y ≤ 7938 := by
  obtain ⟨-, h1, h2, -⟩ := hw.1 i hi
  obtain ⟨a1, a2⟩ := h1.cl
  obtain ⟨b1, b2⟩ := h2.cl
  obtain ⟨c1, c2⟩ := dsq_all _ a1 x hx
  obtain ⟨d1, d2⟩ := dsq_all _ b1 y hy
  unfold dN pxN pyN
  refine ⟨?_, by omega⟩
  rw [← nI_add, ← c1, ← d1, ← a2, ← b2]
theorem pN_lt {S : Nat → Int32} (hw : WF S) {i x y : Nat} (hi : i < 24) (hx : x < 64) (hy : y < 64) : pN S x y i < 300000 := by
  have := (dN_ok hw hi hx hy).2
  unfold pN
  omega
/-- -1 for 0, else one less -/
def laI (lo : Nat) : Int32 := if lo = 0 then -1 else nI (lo - 1)
theorem laI_le {p lo : Nat} (hp : p < 2 ^ 31) (hl : lo < 2 ^ 31) : nI p ≤ laI lo ↔ p < lo := by
  unfold laI
  by_cases z : lo = 0
  · rw [if_pos z]
    refine ⟨fun q => ?_, fun q => by omega⟩
    have := Int32.le_iff_toInt_le.mp q
    rw [nI_toInt hp, show (-1 : Int32).toInt = -1 from rfl] at this
    omega
  · rw [if_neg z, nI_leI hp (by omega)]
    omega
theorem laI_m1 {lo : Nat} (hl : lo < 2 ^ 31) : laI lo = -1 ↔ lo = 0 := by
  unfold laI
  by_cases z : lo = 0
  · rw [if_pos z]
    exact ⟨fun _ => z, fun _ => rfl⟩
  · rw [if_neg z]
    exact ⟨fun q => absurd q (nI_m1 (by omega)), fun q => absurd q z⟩
/-- the least pair of the ids below k that is not below lo, and one more; 0 for none -/
def mA (S : Nat → Int32) (x y lo : Nat) : Nat → Nat
  | 0 => 0
  | k + 1 => if herB S k = true ∧ lo ≤ pN S x y k ∧ (mA S x y lo k = 0 ∨ pN S x y k + 1 < mA S x y lo k) then pN S x y k + 1 else mA S x y lo k
/-- what it is -/
theorem mA_c (S : Nat → Int32) (x y lo : Nat) : ∀ k, (mA S x y lo k = 0 ∧ ∀ i, i < k → herB S i = true → pN S x y i < lo) ∨ ∃ i, i < k ∧ herB S i = true ∧ lo ≤ pN S x y i ∧ mA S x y lo k = pN S x y i + 1 ∧ ∀ j, j < k → herB S j = true → lo ≤ pN S x y j → pN S x y i ≤ pN S x y j
  | 0 => Or.inl ⟨rfl, fun i hi => absurd hi (Nat.not_lt_zero _)⟩
  | k + 1 => by
    unfold mA
    by_cases g : herB S k = true ∧ lo ≤ pN S x y k ∧ (mA S x y lo k = 0 ∨ pN S x y k + 1 < mA S x y lo k)
    · right
      rw [if_pos g]
      refine ⟨k, Nat.lt_succ_self k, g.1, g.2.1, rfl, fun j hj h1 h2 => ?_⟩
      by_cases e : j = k
      · rw [e]
        exact Nat.le_refl _
      · rcases mA_c S x y lo k with ⟨a1, a2⟩ | ⟨i, a1, a2, a3, a4, a5⟩
        · have := a2 j (by omega) h1
          omega
        · have := a5 j (by omega) h1 h2
          omega
    · rw [if_neg g]
      rcases mA_c S x y lo k with ⟨a1, a2⟩ | ⟨i, a1, a2, a3, a4, a5⟩
      · left
        refine ⟨a1, fun j hj h1 => ?_⟩
        by_cases e : j = k
        · subst e
          exact Nat.not_le.mp fun q => g ⟨h1, q, Or.inl a1⟩
        · exact a2 j (by omega) h1
      · right
        refine ⟨i, by omega, a2, a3, a4, fun j hj h1 h2 => ?_⟩
        by_cases e : j = k
        · subst e
          have : ¬ pN S x y j + 1 < mA S x y lo j := fun q => g ⟨h1, h2, Or.inr q⟩
          omega
        · exact a5 j (by omega) h1 h2
theorem mA_lt {S : Nat → Int32} (hw : WF S) {x y lo : Nat} (hx : x < 64) (hy : y < 64) {k : Nat} (hk : k ≤ 24) : mA S x y lo k < 400000 := by
  rcases mA_c S x y lo k with ⟨a1, -⟩ | ⟨i, a1, -, -, a4, -⟩
  · omega
  · have := pN_lt hw (show i < 24 by omega) hx hy
    omega
section DI
variable {n a : Nat} {w : Wd} {S : Nat → Int32} {x y : Nat}
theorem m_pairOf {k : Nat} (h : StW w a S) (hw : WF S) (hk : k < 24) (hx : x < 64) (hy : y < 64) : m_X4_pairOf n w a (nI k) (nI x) (nI y) = some (nI (pN S x y k)) := by
  obtain ⟨F, t, f0, fR⟩ := h
  rw [m_X4_pairOf, f0.q1, Option.bind_some, f0.r1 hk, Option.bind_some, f0.q2, Option.bind_some, f0.r2 hk, Option.bind_some, m_X6_distance, fR.1 1 k (by decide) hk, fR.1 2 k (by decide) hk, (dN_ok hw hk hx hy).1, show (32 : Int32) = nI 32 from rfl, pk_mul, nI_add]
  rfl
theorem m_pairAfter {lo : Nat} (hn : 60 ≤ n) (h : StW w a S) (hw : WF S) (hx : x < 64) (hy : y < 64) (hl : lo < 2 ^ 31) : m_X4_pairAfter n w a (laI lo) (nI x) (nI y) = some (laI (mA S x y lo 24)) := by
  have h0 := h
  obtain ⟨F, t0, f0, fR⟩ := h
  unfold m_X4_pairAfter
  obtain ⟨v, e, rfl⟩ := lp (σ := Unit) (R := Int32) (fun t k _ => m_X4_pairAfter_p6 n t w a (laI lo) (nI x) (nI y) (laI (mA S x y lo k)) (nI k)) (fun _ _ => True) (fun v => v = laI (mA S x y lo 24)) 24 (by
    rintro t k ⟨⟩ hk -
    left
    refine ⟨(), ?_, trivial⟩
    have hp := pN_lt hw hk hx hy
    have hm := mA_lt hw (lo := lo) hx hy (show k ≤ 24 by omega)
    rw [m_X4_pairAfter_p6, if_neg (show ¬ (24 : Int32) ≤ nI k from nI_ge hk (by decide)), f0.ck, Option.bind_some, m_pairOf h0 hw hk hx hy, Option.bind_some, f0.q0, Option.bind_some, f0.r0 hk, Option.bind_some, fR.1 0 k (by decide) hk]
    show _ = m_X4_pairAfter_p6 n t w a (laI lo) (nI x) (nI y) (laI (if herB S k = true ∧ lo ≤ pN S x y k ∧ (mA S x y lo k = 0 ∨ pN S x y k + 1 < mA S x y lo k) then pN S x y k + 1 else mA S x y lo k)) (nI (k + 1))
    have hnew : laI (pN S x y k + 1) = nI (pN S x y k) := by
      unfold laI
      rw [if_neg (by omega), Nat.add_sub_cancel]
    by_cases z : S (5 * k) = 0
    · rw [if_pos (show S (5 * k + 0) = 0 from z), if_neg (fun q => by rw [her0 z] at q; exact absurd q.1 (by decide)), nI_1]
    · rw [if_neg (show ¬ S (5 * k + 0) = 0 from z)]
      by_cases g1 : pN S x y k < lo
      · rw [if_pos ((laI_le (by omega) hl).mpr g1), if_neg (fun q => by omega), nI_1]
      · rw [if_neg (fun q => g1 ((laI_le (by omega) hl).mp q))]
        by_cases g2 : mA S x y lo k = 0
        · rw [if_pos ((laI_m1 (by omega)).mpr g2), if_pos ⟨her1 z, by omega, Or.inl g2⟩, hnew, nI_1]
        · rw [if_neg (fun q => g2 ((laI_m1 (by omega)).mp q))]
          have em : laI (mA S x y lo k) = nI (mA S x y lo k - 1) := if_neg g2
          by_cases g3 : pN S x y k + 1 < mA S x y lo k
          · rw [em, if_neg (nI_ge (show pN S x y k < mA S x y lo k - 1 by omega) (by omega)), if_pos ⟨her1 z, by omega, Or.inr g3⟩, hnew, nI_1]
          · rw [em, if_pos (nI_le (show mA S x y lo k - 1 ≤ pN S x y k by omega) (by omega)), if_neg (fun q => by omega), em, nI_1]) (by
    rintro t ⟨⟩ -
    exact ⟨_, by rw [m_X4_pairAfter_p6, if_pos (by decide)], rfl⟩) 24 0 n () rfl (by omega) trivial
  exact e
def afB (S : Nat → Int32) (x y lo i : Nat) : Bool := herB S i && decide (lo ≤ pN S x y i)
theorem m_pairsAfter {lo : Nat} (hn : 60 ≤ n) (h : StW w a S) (hw : WF S) (hx : x < 64) (hy : y < 64) (hl : lo < 2 ^ 31) : m_X4_pairsAfter n w a (laI lo) (nI x) (nI y) = some (nI (cB (afB S x y lo) 24)) := by
  have h0 := h
  obtain ⟨F, t0, f0, fR⟩ := h
  unfold m_X4_pairsAfter
  obtain ⟨v, e, rfl⟩ := lp (σ := Unit) (R := Int32) (fun t k _ => m_X4_pairsAfter_p6 n t w a (laI lo) (nI x) (nI y) (nI (cB (afB S x y lo) k)) (nI k)) (fun _ _ => True) (fun v => v = nI (cB (afB S x y lo) 24)) 24 (by
    rintro t k ⟨⟩ hk -
    left
    refine ⟨(), ?_, trivial⟩
    have hp := pN_lt hw hk hx hy
    rw [m_X4_pairsAfter_p6, if_neg (show ¬ (24 : Int32) ≤ nI k from nI_ge hk (by decide)), f0.q0, Option.bind_some, f0.r0 hk, Option.bind_some, fR.1 0 k (by decide) hk, cB_s]
    by_cases z : S (5 * k) = 0
    · rw [if_pos (show S (5 * k + 0) = 0 from z), show afB S x y lo k = false by unfold afB; rw [her0 z]; rfl, if_neg (show ¬ false = true by decide), nI_1]
      rfl
    · rw [if_neg (show ¬ S (5 * k + 0) = 0 from z), f0.ck, Option.bind_some, m_pairOf h0 hw hk hx hy, Option.bind_some]
      by_cases g1 : pN S x y k < lo
      · rw [if_pos ((laI_le (by omega) hl).mpr g1), show afB S x y lo k = false by unfold afB; rw [decide_eq_false (by omega), Bool.and_false], if_neg (show ¬ false = true by decide), nI_1]
        rfl
      · rw [if_neg (fun q => g1 ((laI_le (by omega) hl).mp q)), show afB S x y lo k = true by unfold afB; rw [her1 z, decide_eq_true (by omega)]; rfl, if_pos (show true = true from rfl), nI_1, nI_1]) (by
    rintro t ⟨⟩ -
    exact ⟨_, by rw [m_X4_pairsAfter_p6, if_pos (by decide)], rfl⟩) 24 0 n () rfl (by omega) trivial
  exact e
/-! the same of the reference -/
def loC (S : Nat → Int32) (cu : Nat) : Nat := if S (122 + 5 * cu) = 0 then 0 else (S (123 + 5 * cu)).toNatClampNeg * 32 + (S (124 + 5 * cu)).toNatClampNeg + 1
theorem loC_ok {cu : Nat} (hw : WF S) (hc : cu < 4) : loC S cu < 300000 ∧ lpOf S cu = laI (loC S cu) ∧ (S (122 + 5 * cu) = 0 ∧ loC S cu = 0 ∨ S (122 + 5 * cu) = 1 ∧ ∃ d i, d ≤ 7938 ∧ i < 24 ∧ S (123 + 5 * cu) = nI d ∧ S (124 + 5 * cu) = nI i ∧ loC S cu = d * 32 + i + 1) := by
  unfold loC lpOf laI
  rcases (hw.2 cu hc).2.2 with z | ⟨z, ⟨d, hd, ed⟩, i, hi, ei⟩
  · rw [if_pos z, if_pos z]
    exact ⟨by decide, rfl, Or.inl ⟨z, rfl⟩⟩
  · have z' : ¬ S (122 + 5 * cu) = 0 := by rw [z]; decide
    rw [if_neg z', if_neg z', ed, ei, nI_clamp (by omega), nI_clamp (by omega)]
    refine ⟨by omega, ?_, Or.inr ⟨z, d, i, hd, hi, rfl, rfl, rfl⟩⟩
    rw [if_neg (by omega), show (32 : Int32) = nI 32 from rfl, pk_mul, nI_add, Nat.add_sub_cancel]
def cxN (S : Nat → Int32) (cu : Nat) : Nat := (S (120 + 5 * cu)).toNatClampNeg
def cyN (S : Nat → Int32) (cu : Nat) : Nat := (S (121 + 5 * cu)).toNatClampNeg
theorem c_ok {cu : Nat} (hw : WF S) (hc : cu < 4) : cxN S cu < 64 ∧ S (120 + 5 * cu) = nI (cxN S cu) ∧ cyN S cu < 64 ∧ S (121 + 5 * cu) = nI (cyN S cu) := by
  obtain ⟨h1, h2, -⟩ := hw.2 cu hc
  exact ⟨h1.cl.1, h1.cl.2, h2.cl.1, h2.cl.2⟩
variable {b : Nat} {I : Nat → Int32} {J : Nat → Int64} {A : Rw}
theorem k_far {k : Nat} (m : MoC w b I J A) (hr : Row A S) (hw : WF S) (hk : k < 24) (hx : x < 64) (hy : y < 64) : m_X7_far n w b (nI k) (nI x) (nI y) = some (nI (dN S k x y)) := by
  have s1 : (5 : Int32) * nI k + 1 = nI (5 * k + 1) := e5k k 1
  have s2 : (5 : Int32) * nI k + 2 = nI (5 * k + 2) := e5k k 2
  rw [m_X7_far, s1, s2, m.g0, Option.bind_some, m.r0 (by omega), Option.bind_some, Option.bind_some, m.r0 (by omega), Option.bind_some, hr _ (by omega), hr _ (by omega), (dN_ok hw hk hx hy).1]
theorem e120k (cu k : Nat) : (120 : Int32) + 5 * nI cu + nI k = nI (120 + k + 5 * cu) := by
  rw [e120, nI_add]
  exact congrArg nI (by omega)
theorem k_behind {k cu : Nat} (m : MoC w b I J A) (hr : Row A S) (hw : WF S) (hk : k < 24) (hc : cu < 4) : m_X7_isBehind n w b (nI cu) (nI k) = some (if afB S (cxN S cu) (cyN S cu) (loC S cu) k then 1 else 0) := by
  obtain ⟨x1, x2, y1, y2⟩ := c_ok hw hc
  have s1 : (120 : Int32) + 5 * nI cu + 1 = nI (121 + 5 * cu) := e120k cu 1
  have s2 : (120 : Int32) + 5 * nI cu + 2 = nI (122 + 5 * cu) := e120k cu 2
  have s3 : (120 : Int32) + 5 * nI cu + 3 = nI (123 + 5 * cu) := e120k cu 3
  have s4 : (120 : Int32) + 5 * nI cu + 4 = nI (124 + 5 * cu) := e120k cu 4
  have hd := (dN_ok hw hk x1 y1).2
  rw [m_X7_isBehind, s1, s2, s3, s4, e120, m.g0, Option.bind_some, m.r0 (by omega), Option.bind_some, Option.bind_some, m.r0 (by omega), Option.bind_some, m.c, Option.bind_some, hr _ (by omega), hr _ (by omega), x2, y2, k_far m hr hw hk x1 y1, Option.bind_some, Option.bind_some, m_there m hr hw hk, Option.bind_some]
  unfold afB
  by_cases z : S (5 * k) = 0
  · rw [if_pos z, her0 z, Bool.false_and, if_neg (show ¬ false = true by decide)]
  · rw [if_neg z, her1 z, Bool.true_and, Option.bind_some, m.r0 (by omega), Option.bind_some, hr _ (by omega)]
    rcases (loC_ok hw hc).2.2 with ⟨c1, c2⟩ | ⟨c1, d, i, c2, c3, c4, c5, c6⟩
    · rw [if_pos c1, c2, decide_eq_true (Nat.zero_le _), if_pos (show true = true from rfl)]
    · rw [if_neg (by rw [c1]; decide), Option.bind_some, m.r0 (by omega), Option.bind_some, hr _ (by omega), c4, c6]
      unfold pN
      by_cases g1 : d < dN S k (cxN S cu) (cyN S cu)
      · rw [if_pos (nI_lt g1 (by omega)), decide_eq_true (by omega), if_pos (show true = true from rfl)]
      · rw [if_neg (nI_nlt (by omega) (by omega)), Option.bind_some, m.r0 (by omega), Option.bind_some, hr _ (by omega), c4]
        by_cases g2 : dN S k (cxN S cu) (cyN S cu) = d
        · rw [if_pos (by rw [g2]), Option.bind_some, m.r0 (by omega), Option.bind_some, hr _ (by omega), c5]
          by_cases g3 : k ≤ i
          · rw [if_pos (nI_le g3 (by omega)), decide_eq_false (by omega), if_neg (show ¬ false = true by decide)]
          · rw [if_neg (nI_ge (by omega) (by omega)), decide_eq_true (by omega), if_pos (show true = true from rfl)]
        · rw [if_neg (fun q => g2 ((nI_eq (by omega) (by omega)).mp q)), decide_eq_false (by omega), if_neg (show ¬ false = true by decide)]
end DI
