section
/-! COUNTS, SCATTER, UNDO, wouldTouch, open -/
def cB (p : Nat → Bool) : Nat → Nat
  | 0 => 0
  | k + 1 => cB p k + if p k then 1 else 0
theorem cB_le (p : Nat → Bool) : ∀ k, cB p k ≤ k
  | 0 => Nat.le_refl 0
  | k + 1 => by
    have := cB_le p k
    unfold cB
    split <;> omega
theorem cB_cong {p q : Nat → Bool} : ∀ {k : Nat}, (∀ i, i < k → p i = q i) → cB p k = cB q k
  | 0, _ => rfl
  | k + 1, h => by
    unfold cB
    rw [cB_cong (k := k) fun i hi => h i (by omega), h k (Nat.lt_succ_self k)]
theorem cB_s (p : Nat → Bool) (k : Nat) : cB p (k + 1) = cB p k + if p k then 1 else 0 := rfl
def herB (S : Nat → Int32) (i : Nat) : Bool := decide (S (5 * i) ≠ 0)
theorem her0 {S : Nat → Int32} {i : Nat} (h : S (5 * i) = 0) : herB S i = false := decide_eq_false fun q => q h
theorem her1 {S : Nat → Int32} {i : Nat} (h : S (5 * i) ≠ 0) : herB S i = true := decide_eq_true h
theorem m_count {n : Nat} (hn : 30 ≤ n) {w : Wd} {a : Nat} {S : Nat → Int32} (h : StW w a S) : m_X4_count n w a = some (nI (cB (herB S) 24)) := by
  obtain ⟨F, t0, h0, hR⟩ := h
  unfold m_X4_count
  obtain ⟨v, e, rfl⟩ := lp (σ := Unit) (R := Int32) (fun t k _ => m_X4_count_p4 n t w a (nI (cB (herB S) k)) (nI k)) (fun _ _ => True) (fun v => v = nI (cB (herB S) 24)) 24 (by
    rintro t k ⟨⟩ hk -
    left
    refine ⟨(), ?_, trivial⟩
    rw [m_X4_count_p4, if_neg (show ¬ (24 : Int32) ≤ nI k from nI_ge hk (by decide)), h0.q0, Option.bind_some, h0.r0 hk, Option.bind_some, hR.1 0 k (by decide) hk, Nat.add_zero]
    rw [cB_s]
    by_cases c : S (5 * k) = 0
    · rw [if_pos c, her0 c, if_neg (by decide), Int32.add_zero, nI_1]
      rfl
    · rw [if_neg c, her1 c, if_pos rfl, nI_1, nI_1]) (by
    rintro t ⟨⟩ -
    exact ⟨_, by rw [m_X4_count_p4, if_pos (by decide)], rfl⟩) 24 0 n () rfl (by omega) trivial
  exact e
/-! drawn numbers -/
def nxt (D : Nat) : Nat := (1103515245 * D + 12345) % 2147483648
def scaD (D : Nat) : Nat → Nat
  | 0 => D
  | k + 1 => nxt (scaD D k)
theorem nxt_lt (D : Nat) : nxt D < 2 ^ 31 := Nat.mod_lt _ (by decide)
theorem scaD_lt {D : Nat} (h : D < 2 ^ 31) : ∀ k, scaD D k < 2 ^ 31
  | 0 => h
  | k + 1 => nxt_lt _
def scaS (S : Nat → Int32) (D ar f : Nat) : Nat → Nat → Int32
  | 0 => S
  | k + 1 => putS (scaS S D ar f k) (f + k) (nI (scaD D (2 * k + 1) / 65536 % ar)) (nI (scaD D (2 * k + 2) / 65536 % ar))
theorem WF.sca {S : Nat → Int32} {D ar f : Nat} (hw : WF S) (h1 : 1 ≤ ar) (h2 : ar ≤ 64) : ∀ (k : Nat), f + k ≤ 24 → WF (scaS S D ar f k)
  | 0, _ => hw
  | k + 1, h => (WF.sca hw h1 h2 k (by omega)).put (by omega) (Nat.lt_of_lt_of_le (Nat.mod_lt _ (by omega)) h2) (Nat.lt_of_lt_of_le (Nat.mod_lt _ (by omega)) h2)
theorem m_nxt {D : Nat} (h : D < 2 ^ 31) : jrmL ((1103515245 * lN D) + 12345) 2147483648 = lN (nxt D) := by
  rw [show (1103515245 : Int64) = lN 1103515245 from rfl, lN_mul, show (12345 : Int64) = lN 12345 from rfl, lN_add, show (2147483648 : Int64) = lN 2147483648 from rfl]
  exact pk_lRem (by omega) (by decide) (by decide)
theorem m_placeIn {n : Nat} {w : Wd} {D ar : Nat} (h : D < 2 ^ 31) (h1 : 1 ≤ ar) (h2 : ar ≤ 64) : m_X6_placeIn n w (lN D) (nI ar) = some (nI (D / 65536 % ar)) := by
  have e : lN D / 65536 = lN (D / 65536) := pk_lDiv (b := 65536) (by omega) (by decide) (by decide)
  have hz : ¬ lN ar = 0 := fun q => by
    have := (pk_lEQ (a := ar) (b := 0) (by omega) (by decide)).mp q
    omega
  rw [m_X6_placeIn, if_neg (nI_nle h1 (by omega)), e, nI_l (by omega), remL, if_neg hz, Option.bind_some]
  unfold jrmL
  rw [pk_lRem (by omega) h1 (by omega), lN_i]
section SC
variable {n h c L : Nat} {w : Wd} {S : Nat → Int32} {P : Nat → Nat → Int32} {B : Nat → Int32} {r : Int32} {K : Nat → Nat} {xs : Nat → Int32} {i : Int32}
theorem m_scatter6 {f m ar sd : Nat} (hn : 80 ≤ n) (g : ClI w h S P c) (hw : WF S) (hf : f < 24) (hm : f + m ≤ 24) (h1 : 1 ≤ ar) (h2 : ar ≤ 64) (hs : sd < 2 ^ 31) : ∃ w', m_X6_scatter_p30 n n w h (nI f) (nI m) (nI ar) (lN sd) (nI f) = some (nI (cB (herB (scaS S sd ar f m)) 24), w') ∧ ClI w' h (scaS S sd ar f m) P c ∧ FrC w w' h := by
  obtain ⟨z, e, w2, rfl, g2, q2⟩ := lp (σ := Wd) (R := Int32 × Wd) (fun t k v => m_X6_scatter_p30 n t v h (nI f) (nI m) (nI ar) (lN (scaD sd (2 * k))) (nI (f + k))) (fun k v => ClJ v h S (scaS S sd ar f k) P c ∧ FrC w v h) (fun z => ∃ w2, z = (nI (cB (herB (scaS S sd ar f m)) 24), w2) ∧ ClI w2 h (scaS S sd ar f m) P c ∧ FrC w w2 h) m (by
    rintro t k v hk ⟨g0, q0⟩
    left
    have a1 : m_X6_nextRandom (lN (scaD sd (2 * k))) = lN (scaD sd (2 * k + 1)) := m_nxt (scaD_lt hs _)
    have a2 : m_X6_nextRandom (lN (scaD sd (2 * k + 1))) = lN (scaD sd (2 * k + 2)) := m_nxt (scaD_lt hs _)
    obtain ⟨w1, e1, g1, q1⟩ := m_put6 (n := n) (x := nI (scaD sd (2 * k + 1) / 65536 % ar)) (y := nI (scaD sd (2 * k + 2) / 65536 % ar)) g0 (show f + k < 24 by omega)
    refine ⟨w1, ?_, g1, fun q hq => (q1 q hq).trans (q0 q hq)⟩
    show m_X6_scatter_p30 n (t + 1) v h (nI f) (nI m) (nI ar) (lN (scaD sd (2 * k))) (nI (f + k)) = _
    rw [m_X6_scatter_p30, nI_add, if_neg (nI_ge (show f + k < f + m by omega) (by omega)), a1, a2, m_placeIn (scaD_lt hs _) h1 h2, Option.bind_some, g0.n0, Option.bind_some, m_placeIn (scaD_lt hs _) h1 h2, Option.bind_some, g0.ck3, Option.bind_some, e1, Option.bind_some, nI_1]
    rfl) (by
    rintro t v ⟨g0, q0⟩
    have hw' := hw.sca (D := sd) (f := f) h1 h2 m hm
    obtain ⟨w1, e1, g1, q1⟩ := m_settle6 hn g0 hw hw'
    refine ⟨_, ?_, w1, rfl, g1, fun q hq => (q1 q hq).trans (q0 q hq)⟩
    show m_X6_scatter_p30 n (t + 1) v h (nI f) (nI m) (nI ar) (lN (scaD sd (2 * m))) (nI (f + m)) = _
    rw [m_X6_scatter_p30, nI_add, if_pos (Int32.le_refl _), m_X6_scatter_p83, g0.ck, Option.bind_some, e1, Option.bind_some, g1.n0, Option.bind_some, g1.ck3, Option.bind_some, m_count (by omega) g1.1, Option.bind_some]) m 0 n w (by omega) (by omega) ⟨g, fun _ _ => rfl⟩
  exact ⟨w2, e, g2, q2⟩
theorem ins1_c (a : Int32) {m : Nat} (hm : m < 2 ^ 31) : m_X6_inside a 1 (nI m) = 0 ∨ m_X6_inside a 1 (nI m) = 1 ∧ ∃ i, 1 ≤ i ∧ i ≤ m ∧ a = nI i := by
  unfold m_X6_inside
  by_cases h1 : a < 1
  · exact Or.inl (if_pos h1)
  · rw [if_neg h1]
    by_cases h2 : nI m < a
    · exact Or.inl (if_pos h2)
    · rw [if_neg h2]
      have h0 : ¬ a < 0 := fun q => h1 (Int32.lt_trans q (by decide))
      obtain ⟨j, hj, e⟩ := nI_of2 (nI_toInt hm) h0 (Int32.not_lt.mp h2)
      refine Or.inr ⟨rfl, j, Nat.pos_of_ne_zero fun q => h1 ?_, hj, e⟩
      rw [e, q]
      decide
end SC
end
section
/-! wouldTouch, open -/
section WT
variable {n h c L : Nat} {w : Wd} {S : Nat → Int32} {P : Nat → Nat → Int32} {B : Nat → Int32} {r : Int32} {K : Nat → Nat} {xs : Nat → Int32} {i : Int32}
theorem put_back {x y : Int32} {id : Nat} (hz : S (5 * id) = 1) : putS (putS S id x y) id (S (5 * id + 1)) (S (5 * id + 2)) = S := by
  funext k
  unfold putS upd
  by_cases c2 : k = 5 * id + 2
  · rw [if_pos c2, c2]
  · rw [if_neg c2, if_neg c2]
    by_cases c1 : k = 5 * id + 1
    · rw [if_pos c1, c1]
    · rw [if_neg c1, if_neg c1]
      by_cases c0 : k = 5 * id
      · rw [if_pos c0, c0, hz]
      · rw [if_neg c0, if_neg c0]
/-! open -/
def opnS (S : Nat → Int32) (cu : Nat) (x y : Int32) : Nat → Int32 := upd (upd (upd S (120 + 5 * cu) x) (121 + 5 * cu) y) (122 + 5 * cu) 0
theorem WF.opn {cu x y : Nat} (hw : WF S) (hc : cu < 4) (hx : x < 64) (hy : y < 64) : WF (opnS S cu (nI x) (nI y)) := by
  refine ⟨fun i hi => ?_, fun c hc => ?_⟩
  · have := hw.1 i hi
    unfold WFp at this ⊢
    have e : ∀ k, k < 120 → opnS S cu (nI x) (nI y) k = S k := fun k hk => by unfold opnS; rw [pk_un (by omega), pk_un (by omega), pk_un (by omega)]
    rw [e _ (by omega), e _ (by omega), e _ (by omega), e _ (by omega), e _ (by omega)]
    exact this
  · by_cases e : c = cu
    · subst e
      have e0 : opnS S c (nI x) (nI y) (120 + 5 * c) = nI x := by unfold opnS; rw [pk_un (by omega), pk_un (by omega), pk_us]
      have e1 : opnS S c (nI x) (nI y) (121 + 5 * c) = nI y := by unfold opnS; rw [pk_un (by omega), pk_us]
      have e2 : opnS S c (nI x) (nI y) (122 + 5 * c) = 0 := by unfold opnS; rw [pk_us]
      unfold WFc
      rw [e0, e1, e2]
      exact ⟨⟨x, hx, rfl⟩, ⟨y, hy, rfl⟩, Or.inl rfl⟩
    · have := hw.2 c hc
      unfold WFc at this ⊢
      have e : ∀ k, k < 5 → opnS S cu (nI x) (nI y) (120 + 5 * c + k) = S (120 + 5 * c + k) := fun k hk => by unfold opnS; rw [pk_un (by omega), pk_un (by omega), pk_un (by omega)]
      have a0 := e 0 (by decide)
      have a1 := e 1 (by decide)
      have a2 := e 2 (by decide)
      have a3 := e 3 (by decide)
      have a4 := e 4 (by decide)
      rw [show 120 + 5 * c + 0 = 120 + 5 * c from rfl] at a0
      rw [show 120 + 5 * c + 1 = 121 + 5 * c by omega] at a1
      rw [show 120 + 5 * c + 2 = 122 + 5 * c by omega] at a2
      rw [show 120 + 5 * c + 3 = 123 + 5 * c by omega] at a3
      rw [show 120 + 5 * c + 4 = 124 + 5 * c by omega] at a4
      rw [a0, a1, a2, a3, a4]
      exact this
theorem same_cu {S' : Nat → Int32} (h : ∀ k, k < 120 → S' k = S k) : SameP S S' := fun j hj => ⟨h _ (by omega), h _ (by omega), h _ (by omega)⟩
theorem m_open6 {cu : Nat} {x y : Int32} (g : ClI w h S P c) (hc : cu < 4) : ∃ w3, (∀ {R : Type} (f : Wd → Option R), ((gfR 5 0 w h).bind fun q6 => (gfR 3 5 w q6).bind fun q7 => (asI 0 w q7 (nI cu) x).bind fun w8 => (gfR 5 0 w8 h).bind fun q9 => (gfR 3 6 w8 q9).bind fun q10 => (asI 0 w8 q10 (nI cu) y).bind fun w11 => (gfR 5 0 w11 h).bind fun q12 => (gfR 3 7 w11 q12).bind fun q13 => (asI 0 w11 q13 (nI cu) (-1)).bind f) = f w3) ∧ ClI w3 h (opnS S cu x y) P c ∧ FrC w w3 h := by
  obtain ⟨F, t, f0, fR⟩ := g.1
  obtain ⟨w1, e1, f1, q1⟩ := f0.w5 x hc
  obtain ⟨w2, e2, f2, q2⟩ := f1.w6 y hc
  obtain ⟨w3, e3, f3, q3⟩ := f2.w7 (-1) hc
  have gg : ClJ w3 h S (opnS S cu x y) P c ∧ FrC w w3 h := g.st ⟨_, t, f3, ⟨fun j i hj hi => by
      rw [setF_row (by omega), setF_row (by omega), setF_row (by omega)]
      unfold opnS
      rw [pk_un (by omega), pk_un (by omega), pk_un (by omega)]
      exact fR.1 j i hj hi, fun d hd => by
      have r0 := fR.2.1 d hd
      by_cases e : d = cu
      · subst e
        refine ⟨?_, ?_, ?_⟩
        · rw [setF_row (by decide), setF_row (by decide), setF_self]
          unfold opnS
          rw [pk_un (by omega), pk_un (by omega), pk_us]
        · rw [setF_row (by decide), setF_self]
          unfold opnS
          rw [pk_un (by omega), pk_us]
        · rw [setF_self]
          unfold lpOf opnS
          rw [pk_us, if_pos rfl]
      · refine ⟨?_, ?_, ?_⟩
        · rw [setF_row (by decide), setF_row (by decide), setF_col e]
          unfold opnS
          rw [pk_un (by omega), pk_un (by omega), pk_un (by omega)]
          exact r0.1
        · rw [setF_row (by decide), setF_col e, setF_row (by decide)]
          unfold opnS
          rw [pk_un (by omega), pk_un (by omega), pk_un (by omega)]
          exact r0.2.1
        · rw [setF_col e, setF_row (by decide), setF_row (by decide)]
          unfold lpOf opnS
          rw [pk_un (by omega), pk_un (by omega), pk_un (by omega), pk_un (by omega), pk_un (by omega), pk_un (by omega), pk_un (by omega), pk_un (by omega), pk_un (by omega)]
          exact r0.2.2, by
      unfold opnS
      rw [pk_un (by omega), pk_un (by omega), pk_un (by omega)]
      exact fR.2.2⟩⟩ fun q hq => (q3 q hq).trans ((q2 q hq).trans (q1 q hq))
  have n1 : gfR 5 0 w1 h = some (h + 1) := by
    have e : gfR 5 0 w1 h = gfR 5 0 w h := by
      unfold gfR gfV
      rw [q1 h (by omega)]
    rw [e, g.n0]
  have n2 : gfR 5 0 w2 h = some (h + 1) := by
    have e : gfR 5 0 w2 h = gfR 5 0 w1 h := by
      unfold gfR gfV
      rw [q2 h (by omega)]
    rw [e, n1]
  refine ⟨w3, fun f => ?_, gg.1.same (same_cu fun k hk => by unfold opnS; rw [pk_un (by omega), pk_un (by omega), pk_un (by omega)]), gg.2⟩
  rw [g.n0, Option.bind_some, f0.q5, Option.bind_some, e1, Option.bind_some, n1, Option.bind_some, f1.q6, Option.bind_some, e2, Option.bind_some, n2, Option.bind_some, f2.q7, Option.bind_some, e3, Option.bind_some]
theorem e120 (cu : Nat) : (120 : Int32) + 5 * nI cu = nI (120 + 5 * cu) := by rw [e5, show (120 : Int32) = nI 120 from rfl, nI_add]
theorem her_opn {cu : Nat} {x y : Int32} : cB (herB (opnS S cu x y)) 24 = cB (herB S) 24 := cB_cong fun i hi => by
  unfold herB opnS
  rw [pk_un (by omega), pk_un (by omega), pk_un (by omega)]
end WT
end
