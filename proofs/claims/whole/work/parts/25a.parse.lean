/-! SCRIPTS: the class's reader -/
def skp (c : Int32 → Bool) (B : Nat → Int32) (L : Nat) : Nat → Nat → Nat
  | 0, p => p
  | f + 1, p => if p < L ∧ c (B p) = true then skp c B L f (p + 1) else p
theorem skp_c {c : Int32 → Bool} {B : Nat → Int32} {L : Nat} : ∀ {f p : Nat}, p ≤ L → L ≤ p + f → p ≤ skp c B L f p ∧ skp c B L f p ≤ L ∧ (∀ k, p ≤ k → k < skp c B L f p → c (B k) = true) ∧ ¬ (skp c B L f p < L ∧ c (B (skp c B L f p)) = true)
  | 0, p, h1, h2 => ⟨Nat.le_refl _, h1, fun k a b => by
      have : k < p := b
      omega, fun q => by
      have : p < L := q.1
      omega⟩
  | f + 1, p, h1, h2 => by
    unfold skp
    by_cases g : p < L ∧ c (B p) = true
    · rw [if_pos g]
      obtain ⟨a1, a2, a3, a4⟩ := skp_c (c := c) (B := B) (f := f) (p := p + 1) (L := L) (by omega) (by omega)
      refine ⟨by omega, a2, fun k b1 b2 => ?_, a4⟩
      by_cases e : k = p
      · rw [e]; exact g.2
      · exact a3 k (by omega) b2
    · rw [if_neg g]
      exact ⟨Nat.le_refl _, h1, fun k b1 b2 => by omega, g⟩
theorem skp_eq {c : Int32 → Bool} {B : Nat → Int32} {L p q : Nat} {f : Nat} (h1 : p ≤ L) (h2 : L ≤ p + f) (a1 : p ≤ q) (a2 : q ≤ L) (a3 : ∀ k, p ≤ k → k < q → c (B k) = true) (a4 : ¬ (q < L ∧ c (B q) = true)) : skp c B L f p = q := by
  obtain ⟨b1, b2, b3, b4⟩ := skp_c (c := c) (B := B) (f := f) h1 h2
  rcases Nat.lt_trichotomy (skp c B L f p) q with g | g | g
  · exact absurd ⟨by omega, a3 _ b1 g⟩ b4
  · exact g
  · exact absurd ⟨by omega, b3 _ a1 g⟩ a4
def isSp (x : Int32) : Bool := decide (x = 32)
def isLt (x : Int32) : Bool := decide (m_X6_inside x 97 122 ≠ 0)
def isDg (x : Int32) : Bool := decide (m_X6_inside x 48 57 ≠ 0)
def spP (B : Nat → Int32) (L p : Nat) : Nat := skp isSp B L 121 p
def ltP (B : Nat → Int32) (L p : Nat) : Nat := skp isLt B L 121 p
def nxB (c : Int32 → Bool) (B : Nat → Int32) (L p : Nat) : Bool := decide (p < L) && c (B p)
/-- a number: whether it is there, where it ends (or fails), its value -/
def numF (B : Nat → Int32) (L p : Nat) : Bool × Nat × Int32 :=
  if nxB isSp B L p = true then
    if nxB (fun x => decide (x = 45)) B L (spP B L p) = true then
      if nxB isDg B L (spP B L p + 1) = true then
        if nxB isDg B L (spP B L p + 1 + 1) = true then (true, spP B L p + 1 + 1 + 1, -((10 * (B (spP B L p + 1) - 48)) + B (spP B L p + 1 + 1) - 48))
        else (true, spP B L p + 1 + 1, -(B (spP B L p + 1) - 48))
      else (false, spP B L p + 1, 0)
    else
      if nxB isDg B L (spP B L p) = true then
        if nxB isDg B L (spP B L p + 1) = true then (true, spP B L p + 1 + 1, (10 * (B (spP B L p) - 48)) + B (spP B L p + 1) - 48)
        else (true, spP B L p + 1, B (spP B L p) - 48)
      else (false, spP B L p, 0)
  else (false, p, 0)
def ScF (w : Wd) (a L : Nat) (B : Nat → Int32) (p : Nat) (fa wd : Int32) (N : Nat → Int32) : Prop := w a = some (.inr (2, [.ref (a + 1), .int (nI L), .int wd, .ref (a + 2), .int (nI p), .int fa])) ∧ (∃ f, w (a + 1) = some (.inl (0, 120, .inl f)) ∧ ∀ i, i < L → f i = B i) ∧ ∃ g, w (a + 2) = some (.inl (0, 3, .inl g)) ∧ ∀ i, i < 3 → g i = N i
theorem tf {P : Prop} (h : true = false) : P := by cases h
theorem ft {P : Prop} (h : false = true) : P := by cases h
theorem spc_c {B : Nat → Int32} {L p : Nat} (hp : p ≤ L) (hL : L ≤ 120) : p ≤ spP B L p ∧ spP B L p ≤ L ∧ (∀ k, p ≤ k → k < spP B L p → isSp (B k) = true) ∧ ¬ (spP B L p < L ∧ isSp (B (spP B L p)) = true) := skp_c hp (by omega)
theorem lt_c {B : Nat → Int32} {L p : Nat} (hp : p ≤ L) (hL : L ≤ 120) : p ≤ ltP B L p ∧ ltP B L p ≤ L ∧ (∀ k, p ≤ k → k < ltP B L p → isLt (B k) = true) ∧ ¬ (ltP B L p < L ∧ isLt (B (ltP B L p)) = true) := skp_c hp (by omega)
section PR
variable {n a L p : Nat} {w : Wd} {B : Nat → Int32} {fa wd : Int32} {N : Nat → Int32}
theorem ScF.sc (h : ScF w a L B p fa wd N) : ScC w a L B := by
  obtain ⟨h1, h2, g, h3, -⟩ := h
  exact ⟨⟨_, _, _, h1⟩, h2, g, h3⟩
theorem ScF.frame {w' : Wd} (h : ScF w a L B p fa wd N) (hq : ∀ q, a ≤ q → q ≤ a + 2 → w' q = w q) : ScF w' a L B p fa wd N := by
  obtain ⟨h1, ⟨f, h2, h3⟩, g, h4, h5⟩ := h
  exact ⟨by rw [hq _ (by omega) (by omega)]; exact h1, ⟨f, by rw [hq _ (by omega) (by omega)]; exact h2, h3⟩, g, by rw [hq _ (by omega) (by omega)]; exact h4, h5⟩
theorem ScF.i1 (h : ScF w a L B p fa wd N) : gfI 2 1 w a = some (nI L) := gfI_at h.1 rfl
theorem ScF.i2 (h : ScF w a L B p fa wd N) : gfI 2 2 w a = some wd := gfI_at h.1 rfl
theorem ScF.i4 (h : ScF w a L B p fa wd N) : gfI 2 4 w a = some (nI p) := gfI_at h.1 rfl
theorem ScF.i5 (h : ScF w a L B p fa wd N) : gfI 2 5 w a = some fa := gfI_at h.1 rfl
theorem ScF.r0 (h : ScF w a L B p fa wd N) : gfR 2 0 w a = some (a + 1) := gfR_at h.1 rfl
theorem ScF.r3 (h : ScF w a L B p fa wd N) : gfR 2 3 w a = some (a + 2) := gfR_at h.1 rfl
theorem ScF.c (h : ScF w a L B p fa wd N) : chk 2 w a = some () := chk_at h.1
theorem ScF.b (h : ScF w a L B p fa wd N) (hL : L ≤ 120) {k : Nat} (hk : k < L) : agI 0 w (a + 1) (nI k) = some (B k) := by
  obtain ⟨h1, ⟨f, h2, h3⟩, -⟩ := h
  rw [agI_at h2 (by omega) (by decide), h3 k hk]
theorem ScF.nr (h : ScF w a L B p fa wd N) {k : Nat} (hk : k < 3) : agI 0 w (a + 2) (nI k) = some (N k) := by
  obtain ⟨h1, -, g, h4, h5⟩ := h
  rw [agI_at h4 hk (by decide), h5 k hk]
theorem ScF.nw (h : ScF w a L B p fa wd N) (x : Int32) {k : Nat} (hk : k < 3) : ∃ w', asI 0 w (a + 2) (nI k) x = some w' ∧ ScF w' a L B p fa wd (upd N k x) ∧ Fr2 w w' a := by
  obtain ⟨h1, ⟨f, h2, h3⟩, g, h4, h5⟩ := h
  refine ⟨_, asI_at h4 hk (by decide), ⟨by rw [wup_ne (by omega)]; exact h1, ⟨f, by rw [wup_ne (by omega)]; exact h2, h3⟩, _, wup_self, fun i hi => ?_⟩, fun q hq => wup_ne (by omega)⟩
  by_cases e : i = k
  · subst e
    rw [pk_us, pk_us]
  · rw [pk_un e, pk_un e, h5 i hi]
theorem ScF.p4 (h : ScF w a L B p fa wd N) (q : Nat) : ∃ w', pfV 2 4 w a (.int (nI q)) = some w' ∧ ScF w' a L B q fa wd N ∧ Fr2 w w' a := by
  obtain ⟨h1, ⟨f, h2, h3⟩, g, h4, h5⟩ := h
  exact ⟨_, pfV_at h1 (Nat.le_of_ble_eq_true rfl), ⟨wup_self, ⟨f, by rw [wup_ne (by omega)]; exact h2, h3⟩, g, by rw [wup_ne (by omega)]; exact h4, h5⟩, fun q hq => wup_ne (by omega)⟩
theorem ScF.p5 (h : ScF w a L B p fa wd N) (x : Int32) : ∃ w', pfV 2 5 w a (.int x) = some w' ∧ ScF w' a L B p x wd N ∧ Fr2 w w' a := by
  obtain ⟨h1, ⟨f, h2, h3⟩, g, h4, h5⟩ := h
  exact ⟨_, pfV_at h1 (Nat.le_of_ble_eq_true rfl), ⟨wup_self, ⟨f, by rw [wup_ne (by omega)]; exact h2, h3⟩, g, by rw [wup_ne (by omega)]; exact h4, h5⟩, fun q hq => wup_ne (by omega)⟩
theorem ScF.p2 (h : ScF w a L B p fa wd N) (x : Int32) : ∃ w', pfV 2 2 w a (.int x) = some w' ∧ ScF w' a L B p fa x N ∧ Fr2 w w' a := by
  obtain ⟨h1, ⟨f, h2, h3⟩, g, h4, h5⟩ := h
  exact ⟨_, pfV_at h1 (Nat.le_of_ble_eq_true rfl), ⟨wup_self, ⟨f, by rw [wup_ne (by omega)]; exact h2, h3⟩, g, by rw [wup_ne (by omega)]; exact h4, h5⟩, fun q hq => wup_ne (by omega)⟩
theorem Fr2.tr {w1 w2 : Wd} (h : Fr2 w w1 a) (g : Fr2 w1 w2 a) : Fr2 w w2 a := fun q hq => (g q hq).trans (h q hq)
theorem m_peek (h : ScF w a L B p fa wd N) (hL : L ≤ 120) (hp : p ≤ L) : m_X2_peek n w a = some (if p < L then B p else -1) := by
  rw [m_X2_peek, h.i4, Option.bind_some, h.i1, Option.bind_some]
  by_cases g : p < L
  · rw [if_neg (nI_ge g (by omega)), h.r0, Option.bind_some, Option.bind_some, h.b hL g, Option.bind_some, if_pos g]
  · rw [if_pos (nI_le (by omega) (by omega)), if_neg g]
theorem peek_is {c : Int32 → Bool} (hc : c (-1) = false) : c (if p < L then B p else -1) = nxB c B L p := by
  unfold nxB
  by_cases g : p < L
  · rw [if_pos g, decide_eq_true g, Bool.true_and]
  · rw [if_neg g, decide_eq_false g, Bool.false_and, hc]
theorem m_passB {x : Int32} (h : ScF w a L B p fa wd N) (hL : L ≤ 120) (hp : p ≤ L) (hx : x ≠ -1) : ∃ w', m_X2_passByte n w a x = some (if nxB (fun y => decide (y = x)) B L p = true then 1 else 0, w') ∧ (nxB (fun y => decide (y = x)) B L p = true → ScF w' a L B (p + 1) fa wd N) ∧ (nxB (fun y => decide (y = x)) B L p = false → ScF w' a L B p (nI p) wd N) ∧ Fr2 w w' a := by
  have pk := peek_is (p := p) (L := L) (B := B) (c := fun y => decide (y = x)) (decide_eq_false fun q => hx q.symm)
  rw [m_X2_passByte, h.c, Option.bind_some, m_peek h hL hp, Option.bind_some]
  by_cases g : nxB (fun y => decide (y = x)) B L p = true
  · rw [g] at pk
    obtain ⟨w1, e1, h1, q1⟩ := h.p4 (p + 1)
    refine ⟨w1, ?_, fun _ => h1, fun q => by rw [g] at q; exact absurd q (by decide), q1⟩
    rw [if_pos (of_decide_eq_true pk), if_pos g, h.i4, Option.bind_some, nI_1, e1, Option.bind_some]
  · have g' := Bool.eq_false_iff.mpr g
    rw [g'] at pk
    obtain ⟨w1, e1, h1, q1⟩ := h.p5 (nI p)
    refine ⟨w1, ?_, fun q => absurd q g, fun _ => h1, q1⟩
    rw [if_neg (of_decide_eq_false pk), if_neg g, h.i4, Option.bind_some, Option.bind_some, m_X2_failAt, e1, Option.bind_some, Option.bind_some]
    rfl
theorem m_spaces (hn : 200 ≤ n) (h : ScF w a L B p fa wd N) (hL : L ≤ 120) (hp : p ≤ L) : ∃ w', m_X2_passSpaces n w a = some w' ∧ ScF w' a L B (spP B L p) fa wd N ∧ Fr2 w w' a := by
  obtain ⟨a1, a2, a3, a4⟩ := spc_c (B := B) hp hL
  show ∃ w', m_X2_passSpaces_p0 n (n + 1) w a = some w' ∧ _
  refine lp (σ := Wd) (R := Wd) (fun t k v => m_X2_passSpaces_p0 n t v a) (fun k v => p ≤ k ∧ ScF v a L B k fa wd N ∧ Fr2 w v a) _ (spP B L p) ?_ ?_ (spP B L p - p) p (n + 1) w (by omega) (by omega) ⟨Nat.le_refl _, h, fun _ _ => rfl⟩
  · rintro t k v hk ⟨k1, h1, q1⟩
    left
    have hkL : k < L := Nat.lt_of_lt_of_le hk a2
    obtain ⟨v1, e1, h2, q2⟩ := h1.p4 (k + 1)
    refine ⟨v1, ?_, by omega, h2, q1.tr q2⟩
    show m_X2_passSpaces_p0 n (t + 1) v a = _
    rw [m_X2_passSpaces_p0, h1.i4, Option.bind_some, h1.i1, Option.bind_some, if_neg (nI_ge hkL (by omega)), h1.r0, Option.bind_some, Option.bind_some, h1.b hL hkL, Option.bind_some, if_pos (of_decide_eq_true (a3 k k1 hk)), Option.bind_some, nI_1, e1, Option.bind_some]
  · rintro t v ⟨k1, h1, q1⟩
    refine ⟨v, ?_, h1, q1⟩
    show m_X2_passSpaces_p0 n (t + 1) v a = _
    rw [m_X2_passSpaces_p0, h1.i4, Option.bind_some, h1.i1, Option.bind_some]
    by_cases g : spP B L p < L
    · rw [if_neg (nI_ge g (by omega)), h1.r0, Option.bind_some, Option.bind_some, h1.b hL g, Option.bind_some, if_neg (fun q => a4 ⟨g, decide_eq_true q⟩)]
    · rw [if_pos (nI_le (by omega) (by omega))]
theorem sp_bd (hL : L ≤ 120) (hp : p ≤ L) : p ≤ spP B L p ∧ spP B L p ≤ L := by
  obtain ⟨a1, a2, -, -⟩ := skp_c (c := isSp) (B := B) (f := 121) hp (by omega)
  exact ⟨a1, a2⟩
theorem nx_lt {c : Int32 → Bool} (h : nxB c B L p = true) : p < L ∧ c (B p) = true := by
  unfold nxB at h
  rw [Bool.and_eq_true, decide_eq_true_eq] at h
  exact h
theorem sp_s (hL : L ≤ 120) (h : nxB isSp B L p = true) : spP B L (p + 1) = spP B L p := by
  obtain ⟨h1, h2⟩ := nx_lt h
  obtain ⟨a1, a2, a3, a4⟩ := skp_c (c := isSp) (B := B) (f := 121) (p := p) (L := L) (by omega) (by omega)
  have a5 : p < skp isSp B L 121 p := by
    rcases Nat.lt_or_ge p (skp isSp B L 121 p) with g | g
    · exact g
    · have : skp isSp B L 121 p = p := by omega
      rw [this] at a4
      exact absurd ⟨h1, h2⟩ a4
  exact skp_eq (by omega) (by omega) a5 a2 (fun k b1 b2 => a3 k (by omega) b2) a4
theorem dg_peek (h : ScF w a L B p fa wd N) (hL : L ≤ 120) (hp : p ≤ L) : ∃ x, m_X2_peek n w a = some x ∧ (nxB isDg B L p = true → ¬ m_X2_isDigit x = 0 ∧ x = B p) ∧ (nxB isDg B L p = false → m_X2_isDigit x = 0) := by
  refine ⟨_, m_peek h hL hp, fun g => ?_, fun g => ?_⟩
  · obtain ⟨g1, g2⟩ := nx_lt g
    rw [if_pos g1]
    exact ⟨of_decide_eq_true g2, rfl⟩
  · rw [← peek_is (c := isDg) (by decide)] at g
    exact Decidable.not_not.mp (of_decide_eq_false g)
theorem m_num44 {k : Nat} (h : ScF w a L B p fa wd N) (hL : L ≤ 120) (hp : p ≤ L) (hk : k < 3) (ng : Bool) : ∃ z, m_X2_readNumber_p44 n w a (nI k) (bI ng) = some z ∧ Fr2 w z.2 a ∧
    (nxB isDg B L p = true → z.1 = 1 ∧ ScF z.2 a L B (if nxB isDg B L (p + 1) = true then p + 1 + 1 else p + 1) fa wd (upd N k (if nxB isDg B L (p + 1) = true then (if ng then -((10 * (B p - 48)) + B (p + 1) - 48) else (10 * (B p - 48)) + B (p + 1) - 48) else (if ng then -(B p - 48) else B p - 48)))) ∧
    (nxB isDg B L p = false → z.1 = 0 ∧ ScF z.2 a L B p (nI p) wd N) := by
  obtain ⟨x, e0, x1, x2⟩ := dg_peek (n := n) h hL hp
  rw [m_X2_readNumber_p44, h.c, Option.bind_some, e0, Option.bind_some]
  by_cases g : nxB isDg B L p = true
  · obtain ⟨y1, y2⟩ := x1 g
    subst y2
    have hpL := (nx_lt g).1
    obtain ⟨w1, e1, h1, q1⟩ := h.p4 (p + 1)
    obtain ⟨y, f0, z1, z2⟩ := dg_peek (n := n) h1 hL (by omega)
    rw [if_neg y1, Option.bind_some, Option.bind_some, h.i4, Option.bind_some, nI_1, e1, Option.bind_some, h1.c, Option.bind_some, f0, Option.bind_some]
    by_cases g2 : nxB isDg B L (p + 1) = true
    · obtain ⟨u1, u2⟩ := z1 g2
      subst u2
      have hpL2 := (nx_lt g2).1
      obtain ⟨w2, e2, h2, q2⟩ := h1.p4 (p + 1 + 1)
      rw [if_neg u1, Option.bind_some, Option.bind_some, h1.i4, Option.bind_some, nI_1, e2, Option.bind_some, h2.r3, Option.bind_some, if_pos g2, if_pos g2]
      cases ng with
      | true =>
        obtain ⟨w3, e3, h3, q3⟩ := h2.nw (-((10 * (B p - 48)) + B (p + 1) - 48)) hk
        exact ⟨(1, w3), by rw [if_neg (show ¬ bI true = 0 by decide), e3, Option.bind_some], (q1.tr q2).tr q3, fun _ => ⟨rfl, h3⟩, fun q => by rw [g] at q; exact absurd q (by decide)⟩
      | false =>
        obtain ⟨w3, e3, h3, q3⟩ := h2.nw ((10 * (B p - 48)) + B (p + 1) - 48) hk
        exact ⟨(1, w3), by rw [if_pos (show bI false = 0 from rfl), e3, Option.bind_some], (q1.tr q2).tr q3, fun _ => ⟨rfl, h3⟩, fun q => by rw [g] at q; exact absurd q (by decide)⟩
    · have u1 := z2 (Bool.eq_false_iff.mpr g2)
      rw [if_pos u1, h1.r3, Option.bind_some, if_neg g2, if_neg g2]
      cases ng with
      | true =>
        obtain ⟨w3, e3, h3, q3⟩ := h1.nw (-(B p - 48)) hk
        exact ⟨(1, w3), by rw [if_neg (show ¬ bI true = 0 by decide), e3, Option.bind_some], q1.tr q3, fun _ => ⟨rfl, h3⟩, fun q => by rw [g] at q; exact absurd q (by decide)⟩
      | false =>
        obtain ⟨w3, e3, h3, q3⟩ := h1.nw (B p - 48) hk
        exact ⟨(1, w3), by rw [if_pos (show bI false = 0 from rfl), e3, Option.bind_some], q1.tr q3, fun _ => ⟨rfl, h3⟩, fun q => by rw [g] at q; exact absurd q (by decide)⟩
  · have g' := Bool.eq_false_iff.mpr g
    obtain ⟨w1, e1, h1, q1⟩ := h.p5 (nI p)
    refine ⟨(0, w1), ?_, q1, fun q => absurd q g, fun _ => ⟨rfl, h1⟩⟩
    rw [if_pos (x2 g'), h.i4, Option.bind_some, Option.bind_some, m_X2_failAt, e1, Option.bind_some, Option.bind_some]
    rfl
theorem m_num {k : Nat} (hn : 200 ≤ n) (h : ScF w a L B p fa wd N) (hL : L ≤ 120) (hp : p ≤ L) (hk : k < 3) : ∃ z, m_X2_readNumber n w a (nI k) = some z ∧ Fr2 w z.2 a ∧ (numF B L p).2.1 ≤ L ∧ ((numF B L p).1 = true → z.1 = 1 ∧ p < (numF B L p).2.1 ∧ ScF z.2 a L B (numF B L p).2.1 fa wd (upd N k (numF B L p).2.2)) ∧ ((numF B L p).1 = false → z.1 = 0 ∧ ∃ p', ScF z.2 a L B p' (nI (numF B L p).2.1) wd N) := by
  obtain ⟨w1, e1, s1, s0, q1⟩ := m_passB (n := n) (x := 32) h hL hp (by decide)
  rw [m_X2_readNumber, h.c, Option.bind_some, e1, Option.bind_some]
  unfold numF
  have es : nxB (fun y => decide (y = 32)) B L p = nxB isSp B L p := rfl
  rw [es] at s1 s0 ⊢
  by_cases g : nxB isSp B L p = true
  · have h1 := s1 g
    have hpL := (nx_lt g).1
    obtain ⟨w2, e2, h2, q2⟩ := m_spaces hn h1 hL (by omega)
    rw [sp_s hL g] at h2
    have hb := sp_bd (B := B) (p := p + 1) hL (by omega)
    rw [sp_s hL g] at hb
    have pk := peek_is (p := spP B L p) (L := L) (B := B) (c := fun y => decide (y = 45)) (by decide)
    rw [if_pos g, if_pos g, if_neg ne1.1, h1.c, Option.bind_some, e2, Option.bind_some, h2.c, Option.bind_some, m_peek h2 hL hb.2, Option.bind_some]
    by_cases g2 : nxB (fun x => decide (x = 45)) B L (spP B L p) = true
    · rw [g2] at pk
      have hpL2 := (nx_lt g2).1
      obtain ⟨w3, e3, h3, q3⟩ := h2.p4 (spP B L p + 1)
      obtain ⟨z, e4, q4, d1, d0⟩ := m_num44 (n := n) h3 hL (by omega) hk true
      refine ⟨z, ?_, ((q1.tr q2).tr q3).tr q4, ?_⟩
      · rw [if_pos (of_decide_eq_true pk), h2.i4, Option.bind_some, nI_1, e3, Option.bind_some]
        exact e4
      · rw [if_pos g2]
        by_cases g3 : nxB isDg B L (spP B L p + 1) = true
        · have h3L := (nx_lt g3).1
          obtain ⟨b1, b2⟩ := d1 g3
          rw [if_pos g3]
          by_cases g4 : nxB isDg B L (spP B L p + 1 + 1) = true
          · have h4L := (nx_lt g4).1
            rw [if_pos g4, if_pos g4] at b2
            rw [if_pos g4]
            exact ⟨h4L, fun _ => ⟨b1, show p < spP B L p + 1 + 1 + 1 by omega, b2⟩, fun q => tf q⟩
          · rw [if_neg g4, if_neg g4] at b2
            rw [if_neg g4]
            exact ⟨h3L, fun _ => ⟨b1, show p < spP B L p + 1 + 1 by omega, b2⟩, fun q => tf q⟩
        · obtain ⟨b1, b2⟩ := d0 (Bool.eq_false_iff.mpr g3)
          rw [if_neg g3]
          exact ⟨hpL2, fun q => ft q, fun _ => ⟨b1, _, b2⟩⟩
    · have g2' := Bool.eq_false_iff.mpr g2
      rw [g2'] at pk
      obtain ⟨z, e4, q4, d1, d0⟩ := m_num44 (n := n) h2 hL hb.2 hk false
      refine ⟨z, ?_, (q1.tr q2).tr q4, ?_⟩
      · rw [if_neg (of_decide_eq_false pk)]
        exact e4
      · rw [if_neg g2]
        by_cases g3 : nxB isDg B L (spP B L p) = true
        · have h3L := (nx_lt g3).1
          obtain ⟨b1, b2⟩ := d1 g3
          rw [if_pos g3]
          by_cases g4 : nxB isDg B L (spP B L p + 1) = true
          · have h4L := (nx_lt g4).1
            rw [if_pos g4, if_pos g4] at b2
            rw [if_pos g4]
            exact ⟨h4L, fun _ => ⟨b1, show p < spP B L p + 1 + 1 by omega, b2⟩, fun q => tf q⟩
          · rw [if_neg g4, if_neg g4] at b2
            rw [if_neg g4]
            exact ⟨h3L, fun _ => ⟨b1, show p < spP B L p + 1 by omega, b2⟩, fun q => tf q⟩
        · obtain ⟨b1, b2⟩ := d0 (Bool.eq_false_iff.mpr g3)
          rw [if_neg g3]
          exact ⟨hb.2, fun q => ft q, fun _ => ⟨b1, _, b2⟩⟩
  · rw [if_neg g, if_neg g]
    exact ⟨(0, w1), by rw [if_pos rfl], q1, hp, fun q => ft q, fun _ => ⟨rfl, p, s0 (Bool.eq_false_iff.mpr g)⟩⟩
end PR
