section
/-! DISTANCES: pairs, cursors -/
def dsq (a b : Nat) : Nat := (a - b + (b - a)) * (a - b + (b - a))
theorem dsq_all : ∀ a, a < 64 → ∀ b, b < 64 → (nI a - nI b) * (nI a - nI b) = nI (dsq a b) ∧ dsq a b ≤ 3969 := by decide +kernel
def pxN (S : Nat → Int32) (i : Nat) : Nat := (S (5 * i + 1)).toNatClampNeg
def pyN (S : Nat → Int32) (i : Nat) : Nat := (S (5 * i + 2)).toNatClampNeg
theorem N64.cl {v : Int32} (h : N64 v) : v.toNatClampNeg < 64 ∧ v = nI v.toNatClampNeg := by
  obtain ⟨x, hx, rfl⟩ := h
  rw [nI_clamp (by omega)]
  exact ⟨hx, rfl⟩
def dN (S : Nat → Int32) (i x y : Nat) : Nat := dsq (pxN S i) x + dsq (pyN S i) y
def pN (S : Nat → Int32) (x y i : Nat) : Nat := dN S i x y * 32 + i
theorem dN_ok {S : Nat → Int32} (hw : WF S) {i x y : Nat} (hi : i < 24) (hx : x < 64) (hy : y < 64) : (S (5 * i + 1) - nI x) * (S (5 * i + 1) - nI x) + (S (5 * i + 2) - nI y) * (S (5 * i + 2) - nI y) = nI (dN S i x y) ∧ dN S i x y ≤ 7938 := by
  obtain ⟨-, h1, h2, -⟩ := hw.1 i hi
  obtain ⟨a1, a2⟩ := h1.cl
  obtain ⟨b1, b2⟩ := h2.cl
  obtain ⟨c1, c2⟩ := dsq_all _ a1 x hx
  obtain ⟨d1, d2⟩ := dsq_all _ b1 y hy
  unfold dN pxN pyN
  refine ⟨?_, by omega⟩
  rw [← nI_add, ← c1, ← d1, ← a2, ← b2]
theorem pN_lt {S : Nat → Int32} (hw : WF S) {i x y : Nat} (hi : i < 24) (hx : x < 64) (hy : y < 64) : pN S x y i < 300000 := by
  have := (dN_ok hw hi hx hy).2
  unfold pN
  omega
/-- -1 for 0, else one less -/
def laI (lo : Nat) : Int32 := if lo = 0 then -1 else nI (lo - 1)
theorem laI_le {p lo : Nat} (hp : p < 2 ^ 31) (hl : lo < 2 ^ 31) : nI p ≤ laI lo ↔ p < lo := by
  unfold laI
  by_cases z : lo = 0
  · rw [if_pos z]
    refine ⟨fun q => ?_, fun q => by omega⟩
    have := Int32.le_iff_toInt_le.mp q
    rw [nI_toInt hp, show (-1 : Int32).toInt = -1 from rfl] at this
    omega
  · rw [if_neg z, nI_leI hp (by omega)]
    omega
theorem laI_m1 {lo : Nat} (hl : lo < 2 ^ 31) : laI lo = -1 ↔ lo = 0 := by
  unfold laI
  by_cases z : lo = 0
  · rw [if_pos z]
    exact ⟨fun _ => z, fun _ => rfl⟩
  · rw [if_neg z]
    exact ⟨fun q => absurd q (nI_m1 (by omega)), fun q => absurd q z⟩
/-- the least pair of the ids below k that is not below lo, and one more; 0 for none -/
def mA (S : Nat → Int32) (x y lo : Nat) : Nat → Nat
  | 0 => 0
  | k + 1 => if herB S k = true ∧ lo ≤ pN S x y k ∧ (mA S x y lo k = 0 ∨ pN S x y k + 1 < mA S x y lo k) then pN S x y k + 1 else mA S x y lo k
/-- what it is -/
theorem mA_c (S : Nat → Int32) (x y lo : Nat) : ∀ k, (mA S x y lo k = 0 ∧ ∀ i, i < k → herB S i = true → pN S x y i < lo) ∨ ∃ i, i < k ∧ herB S i = true ∧ lo ≤ pN S x y i ∧ mA S x y lo k = pN S x y i + 1 ∧ ∀ j, j < k → herB S j = true → lo ≤ pN S x y j → pN S x y i ≤ pN S x y j
  | 0 => Or.inl ⟨rfl, fun i hi => absurd hi (Nat.not_lt_zero _)⟩
  | k + 1 => by
    unfold mA
    by_cases g : herB S k = true ∧ lo ≤ pN S x y k ∧ (mA S x y lo k = 0 ∨ pN S x y k + 1 < mA S x y lo k)
    · right
      rw [if_pos g]
      refine ⟨k, Nat.lt_succ_self k, g.1, g.2.1, rfl, fun j hj h1 h2 => ?_⟩
      by_cases e : j = k
      · rw [e]
        exact Nat.le_refl _
      · rcases mA_c S x y lo k with ⟨a1, a2⟩ | ⟨i, a1, a2, a3, a4, a5⟩
        · have := a2 j (by omega) h1
          omega
        · have := a5 j (by omega) h1 h2
          omega
    · rw [if_neg g]
      rcases mA_c S x y lo k with ⟨a1, a2⟩ | ⟨i, a1, a2, a3, a4, a5⟩
      · left
        refine ⟨a1, fun j hj h1 => ?_⟩
        by_cases e : j = k
        · subst e
          exact Nat.not_le.mp fun q => g ⟨h1, q, Or.inl a1⟩
        · exact a2 j (by omega) h1
      · right
        refine ⟨i, by omega, a2, a3, a4, fun j hj h1 h2 => ?_⟩
        by_cases e : j = k
        · subst e
          have : ¬ pN S x y j + 1 < mA S x y lo j := fun q => g ⟨h1, h2, Or.inr q⟩
          omega
        · exact a5 j (by omega) h1 h2
theorem mA_lt {S : Nat → Int32} (hw : WF S) {x y lo : Nat} (hx : x < 64) (hy : y < 64) {k : Nat} (hk : k ≤ 24) : mA S x y lo k < 400000 := by
  rcases mA_c S x y lo k with ⟨a1, -⟩ | ⟨i, a1, -, -, a4, -⟩
  · omega
  · have := pN_lt hw (show i < 24 by omega) hx hy
    omega
section DI
variable {n a : Nat} {w : Wd} {S : Nat → Int32} {x y : Nat}
theorem m_pairOf {k : Nat} (h : StW w a S) (hw : WF S) (hk : k < 24) (hx : x < 64) (hy : y < 64) : m_X4_pairOf n w a (nI k) (nI x) (nI y) = some (nI (pN S x y k)) := by
  obtain ⟨F, t, f0, fR⟩ := h
  rw [m_X4_pairOf, f0.q1, Option.bind_some, f0.r1 hk, Option.bind_some, f0.q2, Option.bind_some, f0.r2 hk, Option.bind_some, m_X6_distance, fR.1 1 k (by decide) hk, fR.1 2 k (by decide) hk, (dN_ok hw hk hx hy).1, show (32 : Int32) = nI 32 from rfl, pk_mul, nI_add]
  rfl
theorem m_pairAfter {lo : Nat} (hn : 60 ≤ n) (h : StW w a S) (hw : WF S) (hx : x < 64) (hy : y < 64) (hl : lo < 2 ^ 31) : m_X4_pairAfter n w a (laI lo) (nI x) (nI y) = some (laI (mA S x y lo 24)) := by
  have h0 := h
  obtain ⟨F, t0, f0, fR⟩ := h
  unfold m_X4_pairAfter
  obtain ⟨v, e, rfl⟩ := lp (σ := Unit) (R := Int32) (fun t k _ => m_X4_pairAfter_p6 n t w a (laI lo) (nI x) (nI y) (laI (mA S x y lo k)) (nI k)) (fun _ _ => True) (fun v => v = laI (mA S x y lo 24)) 24 (by
    rintro t k ⟨⟩ hk -
    left
    refine ⟨(), ?_, trivial⟩
    have hp := pN_lt hw hk hx hy
    have hm := mA_lt hw (lo := lo) hx hy (show k ≤ 24 by omega)
    rw [m_X4_pairAfter_p6, if_neg (show ¬ (24 : Int32) ≤ nI k from nI_ge hk (by decide)), f0.ck, Option.bind_some, m_pairOf h0 hw hk hx hy, Option.bind_some, f0.q0, Option.bind_some, f0.r0 hk, Option.bind_some, fR.1 0 k (by decide) hk]
    show _ = m_X4_pairAfter_p6 n t w a (laI lo) (nI x) (nI y) (laI (if herB S k = true ∧ lo ≤ pN S x y k ∧ (mA S x y lo k = 0 ∨ pN S x y k + 1 < mA S x y lo k) then pN S x y k + 1 else mA S x y lo k)) (nI (k + 1))
    have hnew : laI (pN S x y k + 1) = nI (pN S x y k) := by
      unfold laI
      rw [if_neg (by omega), Nat.add_sub_cancel]
    by_cases z : S (5 * k) = 0
    · rw [if_pos (show S (5 * k + 0) = 0 from z), if_neg (fun q => by rw [her0 z] at q; exact absurd q.1 (by decide)), nI_1]
    · rw [if_neg (show ¬ S (5 * k + 0) = 0 from z)]
      by_cases g1 : pN S x y k < lo
      · rw [if_pos ((laI_le (by omega) hl).mpr g1), if_neg (fun q => by omega), nI_1]
      · rw [if_neg (fun q => g1 ((laI_le (by omega) hl).mp q))]
        by_cases g2 : mA S x y lo k = 0
        · rw [if_pos ((laI_m1 (by omega)).mpr g2), if_pos ⟨her1 z, by omega, Or.inl g2⟩, hnew, nI_1]
        · rw [if_neg (fun q => g2 ((laI_m1 (by omega)).mp q))]
          have em : laI (mA S x y lo k) = nI (mA S x y lo k - 1) := if_neg g2
          by_cases g3 : pN S x y k + 1 < mA S x y lo k
          · rw [em, if_neg (nI_ge (show pN S x y k < mA S x y lo k - 1 by omega) (by omega)), if_pos ⟨her1 z, by omega, Or.inr g3⟩, hnew, nI_1]
          · rw [em, if_pos (nI_le (show mA S x y lo k - 1 ≤ pN S x y k by omega) (by omega)), if_neg (fun q => by omega), em, nI_1]) (by
    rintro t ⟨⟩ -
    exact ⟨_, by rw [m_X4_pairAfter_p6, if_pos (by decide)], rfl⟩) 24 0 n () rfl (by omega) trivial
  exact e
def afB (S : Nat → Int32) (x y lo i : Nat) : Bool := herB S i && decide (lo ≤ pN S x y i)
theorem m_pairsAfter {lo : Nat} (hn : 60 ≤ n) (h : StW w a S) (hw : WF S) (hx : x < 64) (hy : y < 64) (hl : lo < 2 ^ 31) : m_X4_pairsAfter n w a (laI lo) (nI x) (nI y) = some (nI (cB (afB S x y lo) 24)) := by
  have h0 := h
  obtain ⟨F, t0, f0, fR⟩ := h
  unfold m_X4_pairsAfter
  obtain ⟨v, e, rfl⟩ := lp (σ := Unit) (R := Int32) (fun t k _ => m_X4_pairsAfter_p6 n t w a (laI lo) (nI x) (nI y) (nI (cB (afB S x y lo) k)) (nI k)) (fun _ _ => True) (fun v => v = nI (cB (afB S x y lo) 24)) 24 (by
    rintro t k ⟨⟩ hk -
    left
    refine ⟨(), ?_, trivial⟩
    have hp := pN_lt hw hk hx hy
    rw [m_X4_pairsAfter_p6, if_neg (show ¬ (24 : Int32) ≤ nI k from nI_ge hk (by decide)), f0.q0, Option.bind_some, f0.r0 hk, Option.bind_some, fR.1 0 k (by decide) hk, cB_s]
    by_cases z : S (5 * k) = 0
    · rw [if_pos (show S (5 * k + 0) = 0 from z), show afB S x y lo k = false by unfold afB; rw [her0 z]; rfl, if_neg (show ¬ false = true by decide), nI_1]
      rfl
    · rw [if_neg (show ¬ S (5 * k + 0) = 0 from z), f0.ck, Option.bind_some, m_pairOf h0 hw hk hx hy, Option.bind_some]
      by_cases g1 : pN S x y k < lo
      · rw [if_pos ((laI_le (by omega) hl).mpr g1), show afB S x y lo k = false by unfold afB; rw [decide_eq_false (by omega), Bool.and_false], if_neg (show ¬ false = true by decide), nI_1]
        rfl
      · rw [if_neg (fun q => g1 ((laI_le (by omega) hl).mp q)), show afB S x y lo k = true by unfold afB; rw [her1 z, decide_eq_true (by omega)]; rfl, if_pos (show true = true from rfl), nI_1, nI_1]) (by
    rintro t ⟨⟩ -
    exact ⟨_, by rw [m_X4_pairsAfter_p6, if_pos (by decide)], rfl⟩) 24 0 n () rfl (by omega) trivial
  exact e
/-! the same of the reference -/
def loC (S : Nat → Int32) (cu : Nat) : Nat := if S (122 + 5 * cu) = 0 then 0 else (S (123 + 5 * cu)).toNatClampNeg * 32 + (S (124 + 5 * cu)).toNatClampNeg + 1
theorem loC_ok {cu : Nat} (hw : WF S) (hc : cu < 4) : loC S cu < 300000 ∧ lpOf S cu = laI (loC S cu) ∧ (S (122 + 5 * cu) = 0 ∧ loC S cu = 0 ∨ S (122 + 5 * cu) = 1 ∧ ∃ d i, d ≤ 7938 ∧ i < 24 ∧ S (123 + 5 * cu) = nI d ∧ S (124 + 5 * cu) = nI i ∧ loC S cu = d * 32 + i + 1) := by
  unfold loC lpOf laI
  rcases (hw.2 cu hc).2.2 with z | ⟨z, ⟨d, hd, ed⟩, i, hi, ei⟩
  · rw [if_pos z, if_pos z]
    exact ⟨by decide, rfl, Or.inl ⟨z, rfl⟩⟩
  · have z' : ¬ S (122 + 5 * cu) = 0 := by rw [z]; decide
    rw [if_neg z', if_neg z', ed, ei, nI_clamp (by omega), nI_clamp (by omega)]
    refine ⟨by omega, ?_, Or.inr ⟨z, d, i, hd, hi, rfl, rfl, rfl⟩⟩
    rw [if_neg (by omega), show (32 : Int32) = nI 32 from rfl, pk_mul, nI_add, Nat.add_sub_cancel]
def cxN (S : Nat → Int32) (cu : Nat) : Nat := (S (120 + 5 * cu)).toNatClampNeg
def cyN (S : Nat → Int32) (cu : Nat) : Nat := (S (121 + 5 * cu)).toNatClampNeg
theorem c_ok {cu : Nat} (hw : WF S) (hc : cu < 4) : cxN S cu < 64 ∧ S (120 + 5 * cu) = nI (cxN S cu) ∧ cyN S cu < 64 ∧ S (121 + 5 * cu) = nI (cyN S cu) := by
  obtain ⟨h1, h2, -⟩ := hw.2 cu hc
  exact ⟨h1.cl.1, h1.cl.2, h2.cl.1, h2.cl.2⟩
variable {b : Nat} {I : Nat → Int32} {J : Nat → Int64} {A : Rw}
theorem e120k (cu k : Nat) : (120 : Int32) + 5 * nI cu + nI k = nI (120 + k + 5 * cu) := by
  rw [e120, nI_add]
  exact congrArg nI (by omega)
end DI
end
section
/-! next, cursor, within -/
def vnx (m : Nat) : Int32 := if m = 0 then -1 else nI ((m - 1) % 32)
def nxtS (S : Nat → Int32) (cu m : Nat) : Nat → Int32 := upd (upd (upd S (122 + 5 * cu) 1) (123 + 5 * cu) (nI ((m - 1) / 32))) (124 + 5 * cu) (nI ((m - 1) % 32))
section NX
variable {n h c L : Nat} {w : Wd} {S : Nat → Int32} {P : Nat → Nat → Int32} {B : Nat → Int32} {r : Int32} {K : Nat → Nat} {xs : Nat → Int32} {i : Int32}
theorem nxt_o {cu m k : Nat} (h : k < 122 + 5 * cu ∨ 124 + 5 * cu < k) : nxtS S cu m k = S k := by
  unfold nxtS
  rw [pk_un (by omega), pk_un (by omega), pk_un (by omega)]
theorem nxt_2 {cu m : Nat} : nxtS S cu m (122 + 5 * cu) = 1 := by
  unfold nxtS
  rw [pk_un (by omega), pk_un (by omega), pk_us]
theorem nxt_3 {cu m : Nat} : nxtS S cu m (123 + 5 * cu) = nI ((m - 1) / 32) := by
  unfold nxtS
  rw [pk_un (by omega), pk_us]
theorem nxt_4 {cu m : Nat} : nxtS S cu m (124 + 5 * cu) = nI ((m - 1) % 32) := by
  unfold nxtS
  rw [pk_us]
theorem WF.nxt {cu m : Nat} (hw : WF S) (h1 : (m - 1) / 32 ≤ 7938) (h2 : (m - 1) % 32 < 24) : WF (nxtS S cu m) := by
  refine ⟨fun i hi => ?_, fun d hd => ?_⟩
  · have := hw.1 i hi
    unfold WFp at this ⊢
    rw [nxt_o (by omega), nxt_o (by omega), nxt_o (by omega), nxt_o (by omega), nxt_o (by omega)]
    exact this
  · have := hw.2 d hd
    unfold WFc at this ⊢
    by_cases e : d = cu
    · subst e
      rw [nxt_o (by omega), nxt_o (by omega), nxt_2, nxt_3, nxt_4]
      exact ⟨this.1, this.2.1, Or.inr ⟨rfl, ⟨_, h1, rfl⟩, _, h2, rfl⟩⟩
    · rw [nxt_o (by omega), nxt_o (by omega), nxt_o (by omega), nxt_o (by omega), nxt_o (by omega)]
      exact this
theorem nxt_R {cu m : Nat} {F : Rw} {t : Int32} (hR : StR S F t) (hm : 0 < m) : StR (nxtS S cu m) (setF F 7 cu (laI m)) t := by
  refine ⟨fun j i hj hi => ?_, fun d hd => ?_, ?_⟩
  · rw [setF_row (by omega), nxt_o (by omega)]
    exact hR.1 j i hj hi
  · obtain ⟨r1, r2, r3⟩ := hR.2.1 d hd
    rw [setF_row (by decide), setF_row (by decide), nxt_o (by omega), nxt_o (by omega)]
    refine ⟨r1, r2, ?_⟩
    by_cases e : d = cu
    · subst e
      rw [setF_self]
      unfold lpOf laI
      rw [nxt_2, nxt_3, nxt_4, if_neg ne1.1, if_neg (by omega), show (32 : Int32) = nI 32 from rfl, pk_mul, nI_add]
      exact congrArg nI (by omega)
    · rw [setF_col e, r3]
      unfold lpOf
      rw [nxt_o (by omega), nxt_o (by omega), nxt_o (by omega)]
  · rw [nxt_o (by omega)]
    exact hR.2.2
noncomputable def nxM (S : Nat → Int32) (cu : Nat) : Nat := mA S (cxN S cu) (cyN S cu) (loC S cu) 24
noncomputable def nxS (S : Nat → Int32) (cu : Nat) : Nat → Int32 := if nxM S cu = 0 then S else nxtS S cu (nxM S cu)
theorem nxM_c {cu : Nat} (hw : WF S) (hc : cu < 4) : nxM S cu = 0 ∨ 0 < nxM S cu ∧ ∃ k, k < 24 ∧ nxM S cu = pN S (cxN S cu) (cyN S cu) k + 1 ∧ (nxM S cu - 1) % 32 = k ∧ (nxM S cu - 1) / 32 = dN S k (cxN S cu) (cyN S cu) ∧ dN S k (cxN S cu) (cyN S cu) ≤ 7938 := by
  obtain ⟨x1, x2, y1, y2⟩ := c_ok hw hc
  unfold nxM
  rcases mA_c S (cxN S cu) (cyN S cu) (loC S cu) 24 with ⟨a1, -⟩ | ⟨k, a1, -, -, a4, -⟩
  · exact Or.inl a1
  · have := (dN_ok hw a1 x1 y1).2
    have e : pN S (cxN S cu) (cyN S cu) k = dN S k (cxN S cu) (cyN S cu) * 32 + k := rfl
    right
    exact ⟨by omega, k, a1, a4, by omega, by omega, this⟩
theorem WF.nxOk {cu : Nat} (hw : WF S) (hc : cu < 4) : WF (nxS S cu) := by
  unfold nxS
  rcases nxM_c hw hc with z | ⟨z, k, k1, k2, k3, k4, k5⟩
  · rw [if_pos z]
    exact hw
  · rw [if_neg (by omega)]
    exact hw.nxt (by omega) (by omega)
theorem m_next6 {cu : Nat} (hn : 60 ≤ n) (g : ClI w h S P c) (hw : WF S) (hc : cu < 4) : ∃ w', ((gfR 5 0 w h).bind fun q26 => (gfR 5 0 w h).bind fun q27 => (gfR 3 7 w q27).bind fun q28 => (agI 0 w q28 (nI cu)).bind fun x29 => (gfR 5 0 w h).bind fun q30 => (gfR 3 5 w q30).bind fun q31 => (agI 0 w q31 (nI cu)).bind fun x32 => (gfR 5 0 w h).bind fun q33 => (gfR 3 6 w q33).bind fun q34 => (agI 0 w q34 (nI cu)).bind fun x35 => (chk 3 w q26).bind fun u36 => (m_X4_pairAfter n w q26 x29 x32 x35).bind fun x37 => if x37 = (-1) then some ((-1 : Int32), w) else (gfR 5 0 w h).bind fun q38 => (gfR 3 7 w q38).bind fun q39 => (asI 0 w q39 (nI cu) x37).bind fun w40 => some ((jrm x37 32), w40)) = some (vnx (nxM S cu), w') ∧ ClI w' h (nxS S cu) P c ∧ FrC w w' h := by
  obtain ⟨F, t, f0, fR⟩ := g.1
  obtain ⟨r1, r2, r3⟩ := fR.2.1 cu hc
  obtain ⟨x1, x2, y1, y2⟩ := c_ok hw hc
  obtain ⟨l1, l2, -⟩ := loC_ok hw hc
  have hm := mA_lt hw (lo := loC S cu) x1 y1 (Nat.le_refl 24)
  rw [g.n0, Option.bind_some, Option.bind_some, f0.q7, Option.bind_some, f0.r7 hc, Option.bind_some, Option.bind_some, f0.q5, Option.bind_some, f0.r5 hc, Option.bind_some, Option.bind_some, f0.q6, Option.bind_some, f0.r6 hc, Option.bind_some, g.ck3, Option.bind_some, r1, r2, r3, x2, y2, l2, m_pairAfter hn g.1 hw x1 y1 (by omega), Option.bind_some]
  rw [show mA S (cxN S cu) (cyN S cu) (loC S cu) 24 = nxM S cu from rfl]
  have hm' : nxM S cu < 400000 := hm
  unfold nxS
  by_cases z : nxM S cu = 0
  · refine ⟨w, ?_, ?_, fun _ _ => rfl⟩
    · rw [if_pos ((laI_m1 (by omega)).mpr z), z]
      rfl
    · rw [if_pos z]
      exact g
  · obtain ⟨w1, e1, f1, q1⟩ := f0.w7 (laI (nxM S cu)) hc
    have gg := g.st ⟨_, t, f1, nxt_R fR (by omega)⟩ q1
    have ec : laI (nxM S cu) = nI (nxM S cu - 1) := if_neg z
    refine ⟨w1, ?_, ?_, gg.2⟩
    · rw [if_neg (fun q => z ((laI_m1 (by omega)).mp q)), Option.bind_some, f0.q7, Option.bind_some, e1, Option.bind_some, ec, show (32 : Int32) = nI 32 from rfl, jrm_nI (by omega) (by decide) (by decide)]
      unfold vnx
      rw [if_neg z]
    · rw [if_neg z]
      exact gg.1.same (same_cu fun k hk => nxt_o (by omega))
end NX
end
section
/-! cursor, within -/
def bdN (x a s : Nat) : Nat := if x < a then a - x else if a + s < x then x - (a + s) else 0
def fqN (q x y : Nat) : Nat := bdN x (xN (q / 8)) (2 ^ sqE q - 1) * bdN x (xN (q / 8)) (2 ^ sqE q - 1) + bdN y (yN (q / 8)) (2 ^ sqE q - 1) * bdN y (yN (q / 8)) (2 ^ sqE q - 1)
theorem bdN_le {x a s : Nat} (hx : x < 64) (ha : a < 64) : bdN x a s ≤ 63 := by
  unfold bdN
  split
  · omega
  · split <;> omega
theorem fqN_le {q x y : Nat} (hq : q / 8 < 4096) (hx : x < 64) (hy : y < 64) : fqN q x y ≤ 7938 := by
  obtain ⟨⟨-, a2⟩, -, b2⟩ := xy6_all _ hq
  have h1 := bdN_le (s := 2 ^ sqE q - 1) hx a2
  have h2 := bdN_le (s := 2 ^ sqE q - 1) hy b2
  have := Nat.mul_le_mul h1 h1
  have := Nat.mul_le_mul h2 h2
  unfold fqN
  omega
theorem sz_all : ∀ e, e ≤ 6 → (1 : Int32) <<< (nI e &&& 31 : Int32) = nI (2 ^ e) := by
  intro e he
  rcases (show e = 0 ∨ e = 1 ∨ e = 2 ∨ e = 3 ∨ e = 4 ∨ e = 5 ∨ e = 6 by omega) with rfl | rfl | rfl | rfl | rfl | rfl | rfl <;> decide +kernel
theorem mn_nI {a b : Nat} (ha : a < 2 ^ 31) (hb : b < 2 ^ 31) : mnI (nI a) (nI b) = nI (min a b) := by
  unfold mnI
  rcases Nat.lt_or_ge b a with h | h
  · rw [if_pos ((nI_ltI hb ha).mpr h), Nat.min_eq_right (by omega)]
  · rw [if_neg (fun q => by have := (nI_ltI hb ha).mp q; omega), Nat.min_eq_left h]
theorem near_sq {x a s : Nat} (hx : x < 64) (ha : a < 64) : (nI x - nI (max a (min x (a + s)))) * (nI x - nI (max a (min x (a + s)))) = nI (bdN x a s * bdN x a s) := by
  have hm : max a (min x (a + s)) < 64 := by omega
  rw [(dsq_all x hx _ hm).1]
  unfold dsq
  have e : x - max a (min x (a + s)) + (max a (min x (a + s)) - x) = bdN x a s := by
    unfold bdN
    split
    · omega
    · split <;> omega
  rw [e]
theorem m_dist {q x y : Nat} (hq : q < 40000) (h6 : q % 8 ≤ 6) (h8 : q / 8 < 4096) (hx : x < 64) (hy : y < 64) : m_X3_distanceTo (nI q) (nI x) (nI y) = nI (fqN q x y) := by
  obtain ⟨⟨a1, a2⟩, b1, b2⟩ := xy6_all _ h8
  have hE := sqE_le q
  have hp : 2 ^ sqE q ≤ 64 := show 2 ^ sqE q ≤ 2 ^ 6 from Nat.pow_le_pow_right (by decide) hE
  have hp0 : 0 < 2 ^ sqE q := Nat.pow_pos (by decide)
  have es : m_X3_size (nI q) - 1 = nI (2 ^ sqE q - 1) := by
    rw [m_X3_size, sq_exp (by omega) h6, sz_all _ hE]
    exact pk_sub (b := 1) hp0
  show m_X6_distance (nI x) (nI y) (mxI (m_X3_xOf (m_X3_corner (nI q))) (mnI (nI x) ((m_X3_xOf (m_X3_corner (nI q))) + ((m_X3_size (nI q)) - 1)))) (mxI (m_X3_yOf (m_X3_corner (nI q))) (mnI (nI y) ((m_X3_yOf (m_X3_corner (nI q))) + ((m_X3_size (nI q)) - 1)))) = _
  rw [sq_corner (by omega), a1, b1, es, nI_add, nI_add, mn_nI (by omega) (by omega), mn_nI (by omega) (by omega), mx_nI (by omega) (by omega), mx_nI (by omega) (by omega), m_X6_distance, near_sq hx a2, near_sq hy b2, nI_add]
  rfl
section CU
variable {n h c L : Nat} {w : Wd} {S : Nat → Int32} {P : Nat → Nat → Int32} {B : Nat → Int32} {r : Int32} {K : Nat → Nat} {xs : Nat → Int32} {i : Int32}
noncomputable def wiN (S : Nat → Int32) (cu d : Nat) (k : Nat) : Nat := cB (fun j => decide (fqN ((nds S 0).getD j 0) (cxN S cu) (cyN S cu) ≤ d)) k
theorem m_nodesWithin {a cu d : Nat} {cs : List Nat} (hn : 60 ≤ n) (hv : LvC w a cs (nds S 0)) (hc4 : C12 cs) (hN : NodesOf cs (nds S 0)) (hw : WF S) (hc : cu < 4) (hd : d ≤ 7938) : m_X1_nodesWithin n w a (nI d) (nI (cxN S cu)) (nI (cyN S cu)) = some (nI (wiN S cu d (nds S 0).length)) := by
  obtain ⟨x1, x2, y1, y2⟩ := c_ok hw hc
  have h24 := hv.2.2.2.2.1
  unfold m_X1_nodesWithin
  obtain ⟨v, e, rfl⟩ := lp (σ := Unit) (R := Int32) (fun t k _ => m_X1_nodesWithin_p6 n t w a (nI d) (nI (cxN S cu)) (nI (cyN S cu)) (nI (wiN S cu d k)) (nI k)) (fun _ _ => True) (fun v => v = nI (wiN S cu d (nds S 0).length)) (nds S 0).length (by
    rintro t k ⟨⟩ hk -
    left
    refine ⟨(), ?_, trivial⟩
    obtain ⟨p1, p2, p3, p4⟩ := node_m hc4 (hN.at hk)
    have hf := fqN_le (x := cxN S cu) (y := cyN S cu) p4 x1 y1
    rw [m_X1_nodesWithin_p6, hv.i3, Option.bind_some, if_neg (nI_ge hk (by omega)), hv.g2, Option.bind_some, hv.sqr hk, Option.bind_some, m_dist p1 p2 p4 x1 y1]
    show _ = m_X1_nodesWithin_p6 n t w a (nI d) (nI (cxN S cu)) (nI (cyN S cu)) (nI (wiN S cu d k + if decide (fqN ((nds S 0).getD k 0) (cxN S cu) (cyN S cu) ≤ d) then 1 else 0)) (nI (k + 1))
    by_cases z : fqN ((nds S 0).getD k 0) (cxN S cu) (cyN S cu) ≤ d
    · rw [if_neg (nI_nlt z (by omega)), if_pos (decide_eq_true z), nI_1, nI_1]
    · rw [if_pos (nI_lt (by omega) (by omega)), if_neg (fun q => z (of_decide_eq_true q)), nI_1]
      rfl) (by
    rintro t ⟨⟩ -
    exact ⟨_, by rw [m_X1_nodesWithin_p6, hv.i3, Option.bind_some, if_pos (Int32.le_refl _)], rfl⟩) (nds S 0).length 0 n () (by omega) (by omega) trivial
  exact e
noncomputable def cuV (S : Nat → Int32) (cu what : Nat) : Int32 := match what with
  | 0 => S (120 + 5 * cu)
  | 1 => S (121 + 5 * cu)
  | 2 => if S (122 + 5 * cu) = 0 then -1 else S (123 + 5 * cu)
  | 3 => if S (122 + 5 * cu) = 0 then -1 else S (124 + 5 * cu)
  | 4 => nI (cB (afB S (cxN S cu) (cyN S cu) (loC S cu)) 24)
  | _ => if S (122 + 5 * cu) = 0 then 0 else nI (wiN S cu (S (123 + 5 * cu)).toNatClampNeg (nds S 0).length)
theorem m_cursor6 {cu what : Nat} (hn : 60 ≤ n) (g : ClI w h S P c) (hw : WF S) (hc : cu < 4) (hwh : what < 6) : m_X6_cursor n w h (nI cu) (nI what) = some (cuV S cu what) := by
  obtain ⟨F, t, f0, fR⟩ := g.1
  obtain ⟨r1, r2, r3⟩ := fR.2.1 cu hc
  obtain ⟨x1, x2, y1, y2⟩ := c_ok hw hc
  obtain ⟨l1, l2, l3⟩ := loC_ok hw hc
  rw [m_X6_cursor, show (4 : Int32) = nI (3 + 1) from rfl, show (5 : Int32) = nI 5 from rfl, rv_0 (by decide) (by decide) (by omega) (by omega), throw0, Option.bind_some, g.n0, Option.bind_some, f0.q5, Option.bind_some, f0.r5 hc, Option.bind_some, Option.bind_some, f0.q6, Option.bind_some, f0.r6 hc, Option.bind_some, Option.bind_some, f0.q7, Option.bind_some, f0.r7 hc, Option.bind_some, r1, r2, r3, l2]
  have hla : (S (122 + 5 * cu) = 0 ∧ laI (loC S cu) = -1) ∨ (S (122 + 5 * cu) ≠ 0 ∧ ∃ d k, d ≤ 7938 ∧ k < 24 ∧ S (123 + 5 * cu) = nI d ∧ S (124 + 5 * cu) = nI k ∧ laI (loC S cu) = nI (d * 32 + k)) := by
    rcases l3 with ⟨z1, z2⟩ | ⟨z1, d, k, z2, z3, z4, z5, z6⟩
    · left
      rw [z2]
      exact ⟨z1, rfl⟩
    · right
      refine ⟨by rw [z1]; decide, d, k, z2, z3, z4, z5, ?_⟩
      unfold laI
      rw [if_neg (by omega), z6, Nat.add_sub_cancel]
  rcases (show what = 0 ∨ what = 1 ∨ what = 2 ∨ what = 3 ∨ what = 4 ∨ what = 5 by omega) with rfl | rfl | rfl | rfl | rfl | rfl
  · rw [if_pos (by decide)]; rfl
  · rw [if_neg (by decide), if_pos (by decide)]; rfl
  · rw [if_neg (by decide), if_neg (by decide), if_pos (by decide)]
    show _ = some (if S (122 + 5 * cu) = 0 then -1 else S (123 + 5 * cu))
    rcases hla with ⟨z1, z2⟩ | ⟨z1, d, k, z2, z3, z4, z5, z6⟩
    · rw [z2, if_pos rfl, if_pos z1]
    · rw [z6, if_neg (nI_m1 (by omega)), if_neg z1, z4, show (32 : Int32) = nI 32 from rfl, pk_div (by omega) (by decide) (by decide), show (d * 32 + k) / 32 = d by omega]
  · rw [if_neg (by decide), if_neg (by decide), if_neg (by decide), if_pos (by decide)]
    show _ = some (if S (122 + 5 * cu) = 0 then -1 else S (124 + 5 * cu))
    rcases hla with ⟨z1, z2⟩ | ⟨z1, d, k, z2, z3, z4, z5, z6⟩
    · rw [z2, if_pos rfl, if_pos z1]
    · rw [z6, if_neg (nI_m1 (by omega)), if_neg z1, z5, show (32 : Int32) = nI 32 from rfl, jrm_nI (by omega) (by decide) (by decide), show (d * 32 + k) % 32 = k by omega]
  · rw [if_neg (by decide), if_neg (by decide), if_neg (by decide), if_neg (by decide), if_pos (by decide), Option.bind_some, g.ck3, Option.bind_some, x2, y2, m_pairsAfter hn g.1 hw x1 y1 (by omega), Option.bind_some]
    rfl
  · rw [if_neg (by decide), if_neg (by decide), if_neg (by decide), if_neg (by decide), if_neg (by decide)]
    show _ = some (if S (122 + 5 * cu) = 0 then 0 else nI (wiN S cu (S (123 + 5 * cu)).toNatClampNeg (nds S 0).length))
    rcases hla with ⟨z1, z2⟩ | ⟨z1, d, k, z2, z3, z4, z5, z6⟩
    · rw [z2, if_pos rfl, if_pos z1]
    · obtain ⟨fo, e0, fc⟩ := g.fo
      obtain ⟨cs, a1, a2, a3, a4, a5⟩ := fc.lev hw (show 0 < 5 by decide)
      have lv0 := fc.1.lv (f := fun q21 => (chk 1 w q21).bind fun u22 => (m_X1_nodesWithin n w q21 (nI (d * 32 + k) / 32) (S (120 + 5 * cu)) (S (121 + 5 * cu))).bind fun x23 => some x23) (show 0 < 5 by decide)
      rw [z6, if_neg (nI_m1 (by omega)), if_neg z1, z4, nI_clamp (by omega), e0, Option.bind_some]
      refine lv0.trans ?_
      show ((chk 1 w (fo + 3 + 3 * 0)).bind fun u22 => (m_X1_nodesWithin n w (fo + 3 + 3 * 0) (nI (d * 32 + k) / 32) (S (120 + 5 * cu)) (S (121 + 5 * cu))).bind fun x23 => some x23) = _
      rw [a1.c, Option.bind_some, show (32 : Int32) = nI 32 from rfl, pk_div (by omega) (by decide) (by decide), show (d * 32 + k) / 32 = d by omega, x2, y2, m_nodesWithin hn a1 a4 a5 hw hc z2, Option.bind_some]
end CU
end
section
/-! within, nearest -/
def inB (S : Nat → Int32) (x0 y0 x1 y1 : Int32) (i : Nat) : Bool := herB S i && (decide (m_X6_inside (S (5 * i + 1)) x0 x1 ≠ 0) && decide (m_X6_inside (S (5 * i + 2)) y0 y1 ≠ 0))
theorem cB_lt {p q : Nat → Bool} : ∀ {k : Nat}, (∀ i, i < k → p i = true → q i = true) → cB p k ≤ cB q k ∧ ((∃ j, j < k ∧ q j = true ∧ p j = false) → cB p k < cB q k)
  | 0, _ => ⟨Nat.le_refl _, fun ⟨j, hj, _⟩ => absurd hj (Nat.not_lt_zero _)⟩
  | k + 1, h => by
    obtain ⟨h1, h2⟩ := cB_lt (k := k) fun i hi => h i (by omega)
    rw [cB_s, cB_s]
    have h3 := h k (Nat.lt_succ_self k)
    refine ⟨?_, fun ⟨j, hj, j1, j2⟩ => ?_⟩
    · by_cases c : p k = true
      · rw [if_pos c, if_pos (h3 c)]
        omega
      · rw [if_neg c]
        split <;> omega
    · by_cases e : j = k
      · subst e
        rw [if_pos j1, j2, if_neg (show ¬ false = true by decide)]
        omega
      · have := h2 ⟨j, by omega, j1, j2⟩
        by_cases c : p k = true
        · rw [if_pos c, if_pos (h3 c)]
          omega
        · rw [if_neg c]
          split <;> omega
theorem cB_one {p q : Nat → Bool} {j : Nat} : ∀ {k : Nat}, j < k → p j = false → q j = true → (∀ i, i < k → i ≠ j → p i = q i) → cB q k = cB p k + 1
  | k + 1, hj, h1, h2, h3 => by
    rw [cB_s, cB_s]
    by_cases e : j = k
    · subst e
      rw [h1, h2, cB_cong (p := p) (q := q) fun i hi => h3 i (by omega) (by omega), if_pos (show true = true from rfl), if_neg (show ¬ false = true by decide)]
    · rw [cB_one (k := k) (by omega) h1 h2 fun i hi => h3 i (by omega), h3 k (Nat.lt_succ_self k) (by omega)]
      omega
def ltB (S : Nat → Int32) (x y m i : Nat) : Bool := herB S i && decide (pN S x y i < m)
theorem pN_inj {S : Nat → Int32} {x y i j : Nat} (hi : i < 24) (hj : j < 24) (h : pN S x y i = pN S x y j) : i = j := by
  unfold pN at h
  omega
def snN (S : Nat → Int32) (x y : Nat) : Nat → Nat
  | 0 => mA S x y 0 24
  | k + 1 => mA S x y (snN S x y k) 24
theorem sn_c {S : Nat → Int32} {x y : Nat} : ∀ r, r < cB (herB S) 24 → ∃ i, i < 24 ∧ herB S i = true ∧ snN S x y r = pN S x y i + 1 ∧ cB (ltB S x y (pN S x y i)) 24 = r ∧ cB (ltB S x y (pN S x y i + 1)) 24 = r + 1 := by
  have step : ∀ (lo r : Nat), cB (ltB S x y lo) 24 = r → r < cB (herB S) 24 → ∃ i, i < 24 ∧ herB S i = true ∧ mA S x y lo 24 = pN S x y i + 1 ∧ cB (ltB S x y (pN S x y i)) 24 = r ∧ cB (ltB S x y (pN S x y i + 1)) 24 = r + 1 := fun lo r h1 h2 => by
    rcases mA_c S x y lo 24 with ⟨a1, a2⟩ | ⟨i, a1, a2, a3, a4, a5⟩
    · have : cB (ltB S x y lo) 24 = cB (herB S) 24 := cB_cong fun j hj => by
        unfold ltB
        cases hh : herB S j with
        | false => rfl
        | true => rw [decide_eq_true (a2 j hj hh)]; rfl
      omega
    · have e1 : cB (ltB S x y (pN S x y i)) 24 = r := by
        rw [← h1]
        refine cB_cong fun j hj => ?_
        unfold ltB
        cases hh : herB S j with
        | false => rfl
        | true =>
          by_cases g : lo ≤ pN S x y j
          · have := a5 j hj hh g
            rw [decide_eq_false (by omega), decide_eq_false (by omega)]
          · rw [decide_eq_true (by omega), decide_eq_true (by omega)]
      refine ⟨i, a1, a2, a4, e1, ?_⟩
      rw [← e1]
      refine cB_one a1 ?_ ?_ fun j hj hne => ?_
      · unfold ltB
        rw [decide_eq_false (Nat.lt_irrefl _), Bool.and_false]
      · unfold ltB
        rw [a2, decide_eq_true (Nat.lt_succ_self _)]
        rfl
      · have : pN S x y j ≠ pN S x y i := fun q => hne (pN_inj hj a1 q)
        unfold ltB
        congr 1
        by_cases g : pN S x y j < pN S x y i
        · rw [decide_eq_true g, decide_eq_true (by omega)]
        · rw [decide_eq_false g, decide_eq_false (by omega)]
  intro r
  induction r with
  | zero =>
    intro h
    refine step 0 0 ?_ h
    have : cB (ltB S x y 0) 24 = cB (fun _ => false) 24 := cB_cong fun j _ => by
      unfold ltB
      rw [decide_eq_false (Nat.not_lt_zero _), Bool.and_false]
    rw [this]
    rfl
  | succ r ih =>
    intro h
    obtain ⟨i, b1, b2, b3, b4, b5⟩ := ih (by omega)
    show ∃ i, i < 24 ∧ herB S i = true ∧ mA S x y (snN S x y r) 24 = pN S x y i + 1 ∧ _
    rw [b3]
    exact step _ _ b5 h
/-- the last id below k that has the rank, and one more -/
def itN (S : Nat → Int32) (x y r : Nat) : Nat → Nat
  | 0 => 0
  | k + 1 => if herB S k = true ∧ cB (ltB S x y (pN S x y k)) 24 = r then k + 1 else itN S x y r k
theorem it_le (S : Nat → Int32) (x y r : Nat) : ∀ k, itN S x y r k ≤ k
  | 0 => Nat.le_refl 0
  | k + 1 => by
    have := it_le S x y r k
    unfold itN
    split <;> omega
theorem ahd_lt {S : Nat → Int32} {x y i j : Nat} (hi : i < 24) (h1 : herB S i = true) (h : pN S x y i < pN S x y j) : cB (ltB S x y (pN S x y i)) 24 < cB (ltB S x y (pN S x y j)) 24 := by
  refine (cB_lt (p := ltB S x y (pN S x y i)) (q := ltB S x y (pN S x y j)) fun k hk hp => ?_).2 ⟨i, hi, ?_, ?_⟩
  · unfold ltB at hp ⊢
    rw [Bool.and_eq_true, decide_eq_true_eq] at hp ⊢
    exact ⟨hp.1, by omega⟩
  · unfold ltB
    rw [h1, decide_eq_true h]
    rfl
  · unfold ltB
    rw [decide_eq_false (Nat.lt_irrefl _), Bool.and_false]
theorem it_no {S : Nat → Int32} {x y r : Nat} (h : cB (herB S) 24 ≤ r) : ∀ k, k ≤ 24 → itN S x y r k = 0
  | 0, _ => rfl
  | k + 1, hk => by
    unfold itN
    rw [if_neg (fun q => by
      have := (cB_lt (p := ltB S x y (pN S x y k)) (q := herB S) (k := 24) fun i hi hp => by
        unfold ltB at hp
        rw [Bool.and_eq_true] at hp
        exact hp.1).2 ⟨k, by omega, q.1, by
          unfold ltB
          rw [decide_eq_false (Nat.lt_irrefl _), Bool.and_false]⟩
      omega)]
    exact it_no h k (by omega)
theorem it_yes {S : Nat → Int32} {x y r i : Nat} (hi : i < 24) (h1 : herB S i = true) (h2 : cB (ltB S x y (pN S x y i)) 24 = r) : ∀ k, k ≤ 24 → itN S x y r k = if i < k then i + 1 else 0
  | 0, _ => by rw [if_neg (Nat.not_lt_zero _)]; rfl
  | k + 1, hk => by
    unfold itN
    by_cases e : k = i
    · subst e
      rw [if_pos ⟨h1, h2⟩, if_pos (Nat.lt_succ_self k)]
    · rw [if_neg (fun q => by
        rcases Nat.lt_trichotomy (pN S x y k) (pN S x y i) with g | g | g
        · have := ahd_lt (show k < 24 by omega) q.1 g
          omega
        · exact e (pN_inj (by omega) hi g)
        · have := ahd_lt hi h1 g
          omega), it_yes hi h1 h2 k (by omega)]
      by_cases g : i < k
      · rw [if_pos g, if_pos (by omega)]
      · rw [if_neg g, if_neg (by omega)]
/-- the answer: the id, and one more -/
theorem near_eq {S : Nat → Int32} {x y r : Nat} : (cB (herB S) 24 ≤ r → itN S x y r 24 = 0) ∧ (r < cB (herB S) 24 → 0 < snN S x y r ∧ itN S x y r 24 = (snN S x y r - 1) % 32 + 1) := by
  refine ⟨fun h => it_no h 24 (Nat.le_refl _), fun h => ?_⟩
  obtain ⟨i, b1, b2, b3, b4, b5⟩ := sn_c r h (x := x) (y := y)
  rw [it_yes b1 b2 b4 24 (Nat.le_refl _), if_pos b1, b3]
  refine ⟨by omega, ?_⟩
  unfold pN
  omega
theorem sn_lt {S : Nat → Int32} (hw : WF S) {x y : Nat} (hx : x < 64) (hy : y < 64) : ∀ r, snN S x y r < 400000
  | 0 => mA_lt hw hx hy (Nat.le_refl 24)
  | r + 1 => mA_lt hw hx hy (Nat.le_refl 24)
section NE
variable {n h c L : Nat} {w : Wd} {S : Nat → Int32} {P : Nat → Nat → Int32} {B : Nat → Int32} {r : Int32} {K : Nat → Nat} {xs : Nat → Int32} {i : Int32}
theorem m_near6 {x y k : Nat} (hn : 60 ≤ n) (g : ClI w h S P c) (hw : WF S) (hx : x < 64) (hy : y < 64) (hk : k < cB (herB S) 24) : m_X6_nearest_p48 n n w h (nI x) (nI y) (nI k) (laI (snN S x y 0)) 0 = some (laI (itN S x y k 24)) := by
  have h24 := cB_le (herB S) 24
  obtain ⟨v, e, rfl⟩ := lp (σ := Unit) (R := Int32) (fun t j _ => m_X6_nearest_p48 n t w h (nI x) (nI y) (nI k) (laI (snN S x y j)) (nI j)) (fun _ _ => True) (fun v => v = laI (itN S x y k 24)) k (by
    rintro t j ⟨⟩ hj -
    left
    refine ⟨(), ?_, trivial⟩
    have := sn_lt hw hx hy j
    rw [m_X6_nearest_p48, if_neg (nI_ge hj (by omega)), g.n0, Option.bind_some, g.ck3, Option.bind_some, m_pairAfter hn g.1 hw hx hy (by omega), Option.bind_some, nI_1]
    rfl) (by
    rintro t ⟨⟩ -
    refine ⟨_, ?_, rfl⟩
    have := sn_lt hw hx hy k
    obtain ⟨b1, b2⟩ := (near_eq (S := S) (x := x) (y := y) (r := k)).2 hk
    have e1 : laI (snN S x y k) = nI (snN S x y k - 1) := if_neg (by omega)
    have e2 : laI (itN S x y k 24) = nI (itN S x y k 24 - 1) := if_neg (by omega)
    rw [m_X6_nearest_p48, if_pos (Int32.le_refl _), e1, e2, show (32 : Int32) = nI 32 from rfl, jrm_nI (by omega) (by decide) (by decide), b2, Nat.add_sub_cancel]) k 0 n () (by omega) (by omega) trivial
  exact e
end NE
end
section
/-! closest, type, clearScript -/
def cde (S : Nat → Int32) (i j : Nat) : Nat := pN S (pxN S j) (pyN S j) i * 32 + j
def stC (S : Nat → Int32) (i j m : Nat) : Nat := if herB S j = true ∧ (m = 0 ∨ cde S i j + 1 < m) then cde S i j + 1 else m
def inC (S : Nat → Int32) (i m : Nat) : Nat → Nat
  | 0 => m
  | j + 1 => if i < j ∧ herB S i = true then stC S i j (inC S i m j) else inC S i m j
def ouC (S : Nat → Int32) : Nat → Nat
  | 0 => 0
  | i + 1 => inC S i (ouC S i) 24
theorem inC_lo {S : Nat → Int32} {i m : Nat} : ∀ {j : Nat}, j ≤ i + 1 → inC S i m j = m
  | 0, _ => rfl
  | j + 1, h => by
    unfold inC
    rw [if_neg (fun q => by omega), inC_lo (by omega)]
theorem inC_no {S : Nat → Int32} {i m : Nat} (h : herB S i = false) : ∀ j, inC S i m j = m
  | 0 => rfl
  | j + 1 => by
    unfold inC
    rw [if_neg (fun q => by rw [h] at q; exact absurd q.2 (by decide)), inC_no h j]
theorem WFp.px {S : Nat → Int32} {j : Nat} (h : WFp S j) : pxN S j < 64 ∧ S (5 * j + 1) = nI (pxN S j) ∧ pyN S j < 64 ∧ S (5 * j + 2) = nI (pyN S j) := ⟨h.2.1.cl.1, h.2.1.cl.2, h.2.2.1.cl.1, h.2.2.1.cl.2⟩
theorem cde_lt {S : Nat → Int32} (hw : WF S) {i j : Nat} (hi : i < 24) (hj : j < 24) : cde S i j < 10000000 := by
  obtain ⟨h1, -, h2, -⟩ := (hw.1 j hj).px
  have := pN_lt hw hi h1 h2
  unfold cde
  omega
theorem inC_lt {S : Nat → Int32} (hw : WF S) {i m : Nat} (hi : i < 24) (hm : m < 10000001) : ∀ j, j ≤ 24 → inC S i m j < 10000001
  | 0, _ => hm
  | j + 1, h => by
    have h1 := inC_lt hw hi hm j (by omega)
    have h2 := cde_lt hw hi (show j < 24 by omega)
    unfold inC
    split
    · unfold stC
      split <;> omega
    · exact h1
theorem ouC_lt {S : Nat → Int32} (hw : WF S) : ∀ i, i ≤ 24 → ouC S i < 10000001
  | 0, _ => Nat.zero_lt_succ _
  | i + 1, h => inC_lt hw (by omega) (ouC_lt hw i (by omega)) 24 (Nat.le_refl _)
theorem inC_low (S : Nat → Int32) {i m : Nat} (hi : i < 24) (h0 : m = 0 ∨ (m - 1) % 1024 < i * 32) : ∀ j, j ≤ 24 → inC S i m j = 0 ∨ (inC S i m j - 1) % 1024 < i * 32 + j
  | 0, _ => by
    show m = 0 ∨ (m - 1) % 1024 < i * 32 + 0
    omega
  | j + 1, h => by
    have h1 := inC_low S hi h0 j (by omega)
    unfold inC
    split
    · unfold stC
      split
      · right
        unfold cde pN
        omega
      · omega
    · omega
theorem ouC_low (S : Nat → Int32) : ∀ i, i ≤ 24 → ouC S i = 0 ∨ (ouC S i - 1) % 1024 < i * 32
  | 0, _ => Or.inl rfl
  | i + 1, h => by
    have h1 := inC_low S (show i < 24 by omega) (ouC_low S i (by omega)) 24 (Nat.le_refl _)
    show inC S i (ouC S i) 24 = 0 ∨ (inC S i (ouC S i) 24 - 1) % 1024 < (i + 1) * 32
    omega
def clV (m what : Nat) : Int32 := if m = 0 then -1 else if what = 0 then nI ((m - 1) / 1024) else if what = 1 then nI ((m - 1) / 32 % 32) else nI ((m - 1) % 32)
section CL
variable {n h c L : Nat} {w : Wd} {S : Nat → Int32} {P : Nat → Nat → Int32} {B : Nat → Int32} {r : Int32} {K : Nat → Nat} {xs : Nat → Int32} {i : Int32}
theorem m_couple {a : Nat} (hn : 60 ≤ n) (hs : StW w a S) (hw : WF S) : m_X4_closestCouple n w a = some (laI (ouC S 24)) := by
  have hs0 := hs
  obtain ⟨F, t0, f0, fR⟩ := hs
  unfold m_X4_closestCouple
  obtain ⟨v, e, rfl⟩ := lp (σ := Unit) (R := Int32) (fun t i _ => m_X4_closestCouple_p4 n t w a (laI (ouC S i)) (nI i)) (fun _ _ => True) (fun v => v = laI (ouC S 24)) 24 (by
    rintro t i ⟨⟩ hi -
    left
    refine ⟨(), ?_, trivial⟩
    rw [m_X4_closestCouple_p4, if_neg (show ¬ (24 : Int32) ≤ nI i from nI_ge hi (by decide)), nI_1]
    obtain ⟨u, e, -⟩ := lpk (σ := Unit) (τ := Unit) (R := Option Int32) (fun t' j _ => m_X4_closestCouple_p14 n (fun w b0 b1 b2 => m_X4_closestCouple_p4 n t w b0 b1 b2) t' w a (laI (inC S i (ouC S i) j)) (nI i) (nI j)) (fun _ => m_X4_closestCouple_p4 n t w a (laI (ouC S (i + 1))) (nI (i + 1))) (fun j _ => i < j) (fun _ => True) 24 (by
      rintro t' j ⟨⟩ hj hij
      by_cases z : S (5 * i) = 0
      · right
        refine ⟨(), ?_, trivial⟩
        rw [m_X4_closestCouple_p14, f0.q0, Option.bind_some, f0.r0 hi, Option.bind_some, fR.1 0 i (by decide) hi, if_pos (show S (5 * i + 0) = 0 from z), inC_no (her0 z), nI_1, show ouC S (i + 1) = ouC S i from inC_no (her0 z) 24]
      · left
        refine ⟨(), ?_, Nat.lt_succ_of_lt hij⟩
        obtain ⟨x1, x2, y1, y2⟩ := (hw.1 j hj).px
        have hm := inC_lt hw hi (ouC_lt hw i (by omega)) j (by omega)
        have hcd := cde_lt hw hi hj
        have en : laI (cde S i j + 1) = nI (cde S i j) := by
          unfold laI
          rw [if_neg (by omega), Nat.add_sub_cancel]
        rw [m_X4_closestCouple_p14, f0.q0, Option.bind_some, f0.r0 hi, Option.bind_some, fR.1 0 i (by decide) hi, if_neg (show ¬ S (5 * i + 0) = 0 from z), if_neg (show ¬ (24 : Int32) ≤ nI j from nI_ge hj (by decide)), f0.q1, Option.bind_some, f0.r1 hj, Option.bind_some, f0.q2, Option.bind_some, f0.r2 hj, Option.bind_some, f0.ck, Option.bind_some, fR.1 1 j (by decide) hj, fR.1 2 j (by decide) hj, x2, y2, m_pairOf hs0 hw hi x1 y1, Option.bind_some, Option.bind_some, f0.r0 hj, Option.bind_some, fR.1 0 j (by decide) hj, show (32 : Int32) = nI 32 from rfl, pk_mul, nI_add, show pN S (pxN S j) (pyN S j) i * 32 + j = cde S i j from rfl]
        show _ = m_X4_closestCouple_p14 n _ t' w a (laI (if i < j ∧ herB S i = true then stC S i j (inC S i (ouC S i) j) else inC S i (ouC S i) j)) (nI i) (nI (j + 1))
        rw [if_pos (show i < j ∧ herB S i = true from ⟨hij, her1 z⟩)]
        unfold stC
        by_cases z2 : S (5 * j) = 0
        · rw [if_pos (show S (5 * j + 0) = 0 from z2), if_neg (fun q => by rw [her0 z2] at q; exact absurd q.1 (by decide)), nI_1]
        · rw [if_neg (show ¬ S (5 * j + 0) = 0 from z2)]
          by_cases g2 : inC S i (ouC S i) j = 0
          · rw [if_pos ((laI_m1 (by omega)).mpr g2), if_pos (show herB S j = true ∧ _ from ⟨her1 z2, Or.inl g2⟩), en, nI_1]
          · rw [if_neg (fun q => g2 ((laI_m1 (by omega)).mp q))]
            have em : laI (inC S i (ouC S i) j) = nI (inC S i (ouC S i) j - 1) := if_neg g2
            by_cases g3 : cde S i j + 1 < inC S i (ouC S i) j
            · rw [em, if_neg (nI_ge (show cde S i j < inC S i (ouC S i) j - 1 by omega) (by omega)), if_pos (show herB S j = true ∧ _ from ⟨her1 z2, Or.inr g3⟩), en, nI_1]
            · rw [em, if_pos (nI_le (show inC S i (ouC S i) j - 1 ≤ cde S i j by omega) (by omega)), if_neg (fun q => by omega), em, nI_1]) (by
      rintro t' ⟨⟩ -
      refine ⟨(), ?_, trivial⟩
      rw [m_X4_closestCouple_p14, f0.q0, Option.bind_some, f0.r0 hi, Option.bind_some, fR.1 0 i (by decide) hi]
      by_cases z : S (5 * i) = 0
      · rw [if_pos (show S (5 * i + 0) = 0 from z), nI_1]
        rfl
      · rw [if_neg (show ¬ S (5 * i + 0) = 0 from z), if_pos (by decide), nI_1]
        rfl) (24 - (i + 1)) (i + 1) n () (by omega) (by omega) (Nat.lt_succ_self i)
    rw [inC_lo (Nat.le_refl _)] at e
    exact e) (by
    rintro t ⟨⟩ -
    exact ⟨_, by rw [m_X4_closestCouple_p4, if_pos (by decide)], rfl⟩) 24 0 n () rfl (by omega) trivial
  exact e
theorem m_close6 {what : Nat} (hn : 60 ≤ n) (g : ClI w h S P c) (hw : WF S) (hwh : what < 3) : m_X6_closest n w h (nI what) = some (clV (ouC S 24) what) := by
  have hl := ouC_lt hw 24 (Nat.le_refl _)
  rw [m_X6_closest, show m_X6_inside (nI what) 0 2 = 1 from ins_1 (m := 2) (by decide) (by omega), if_neg ne1.1, throw0, Option.bind_some, g.n0, Option.bind_some, g.ck3, Option.bind_some, m_couple hn g.1 hw, Option.bind_some]
  unfold clV
  by_cases z : ouC S 24 = 0
  · rw [if_pos ((laI_m1 (by omega)).mpr z), if_pos z]
  · have e1 : laI (ouC S 24) = nI (ouC S 24 - 1) := if_neg z
    rw [if_neg (fun q => z ((laI_m1 (by omega)).mp q)), if_neg z, e1]
    rcases (show what = 0 ∨ what = 1 ∨ what = 2 by omega) with rfl | rfl | rfl
    · rw [if_pos (show nI 0 = 0 from rfl), if_pos rfl, show (1024 : Int32) = nI 1024 from rfl, pk_div (by omega) (by decide) (by decide)]
    · rw [if_neg (show ¬ nI 1 = 0 by decide), if_pos (show nI 1 = 1 from rfl), if_neg (by decide), if_pos rfl, show (32 : Int32) = nI 32 from rfl, pk_div (by omega) (by decide) (by decide), jrm_nI (by omega) (by decide) (by decide)]
    · rw [if_neg (show ¬ nI 2 = 0 by decide), if_neg (show ¬ nI 2 = 1 by decide), if_neg (by decide), if_neg (by decide), show (32 : Int32) = nI 32 from rfl, jrm_nI (by omega) (by decide) (by decide)]
/-! type, clearScript -/
theorem m_append {a : Nat} (hs : ScC w a L B) (hL : L < 120) (x : Int32) : ∃ w', m_X2_append n w a x = some w' ∧ ScC w' a (L + 1) (upd B L x) ∧ ∀ q, (q < a ∨ a + 2 < q) → w' q = w q := by
  obtain ⟨⟨wd, po, fa, h1⟩, ⟨f, h2, h3⟩, g, h4⟩ := hs
  generalize hw : wup (wup w (a + 1) (.inl (0, 120, .inl (upd f L x)))) a (.inr (2, [.ref (a + 1), .int (nI (L + 1)), .int wd, .ref (a + 2), .int po, .int fa])) = w'
  have o : ∀ q, q ≠ a → q ≠ a + 1 → w' q = w q := fun q hq hq1 => by rw [← hw, wup_ne hq, wup_ne hq1]
  have h1' : wup w (a + 1) (.inl (0, 120, .inl (upd f L x))) a = some (.inr (2, [.ref (a + 1), .int (nI L), .int wd, .ref (a + 2), .int po, .int fa])) := by rw [wup_ne (by omega)]; exact h1
  refine ⟨w', ?_, ⟨⟨wd, po, fa, by rw [← hw, wup_self]⟩, ⟨upd f L x, by rw [← hw, wup_ne (by omega), wup_self], fun k hk => ?_⟩, g, by rw [o _ (by omega) (by omega)]; exact h4⟩, fun q hq => o q (by omega) (by omega)⟩
  · rw [m_X2_append, gfI_at h1 rfl, Option.bind_some, if_neg (show ¬ (120 : Int32) ≤ nI L from nI_ge hL (by decide)), gfR_at h1 rfl, Option.bind_some, Option.bind_some, asI_at h2 hL (by decide), Option.bind_some, gfI_at h1' rfl, Option.bind_some, pfV_at h1' (Nat.le_of_ble_eq_true rfl), Option.bind_some, nI_1]
    exact congrArg some hw
  · by_cases e : k = L
    · subst e
      rw [pk_us, pk_us]
    · rw [pk_un e, pk_un e, h3 k (by omega)]
theorem ScC.len {a : Nat} (hs : ScC w a L B) : gfI 2 1 w a = some (nI L) := by
  obtain ⟨⟨wd, po, fa, h1⟩, -⟩ := hs
  exact gfI_at h1 rfl
theorem ScC.ck {a : Nat} (hs : ScC w a L B) : chk 2 w a = some () := by
  obtain ⟨⟨wd, po, fa, h1⟩, -⟩ := hs
  exact chk_at h1
theorem ClJ.frS {w' : Wd} {S' : Nat → Int32} (g : ClJ w h S S' P c) (hq : ∀ q, (q < h + 48 ∨ h + 48 + 2 < q) → w' q = w q) : ClJ w' h S S' P c := g.frame fun q _ _ d => hq q (by omega)
end CL
end
