section
/-! A STATE'S READS AND WRITES, EACH BY ITSELF; small changes of a row -/
section SQ
variable {w : Wd} {a k : Nat} {t : Int32} {F : Rw}
theorem StC.q0 (h : StC w a t F) : gfR 3 0 w a = some (a + 1) := gfR_at h.1 rfl
theorem StC.r0 (h : StC w a t F) (hk : k < 24) : agI 1 w (a + 1) (nI k) = some (F 0 k) := agI_at h.2.1 hk (by decide)
theorem StC.w0 (h : StC w a t F) (x : Int32) (hk : k < 24) : ∃ w', asI 1 w (a + 1) (nI k) x = some w' ∧ StC w' a t (setF F 0 k x) ∧ ∀ q, (q < a ∨ a + 8 < q) → w' q = w q := ⟨_, asI_at h.2.1 hk (by decide), h.s0, fun q hq => wup_ne (by omega)⟩
theorem StC.q1 (h : StC w a t F) : gfR 3 1 w a = some (a + 2) := gfR_at h.1 rfl
theorem StC.r1 (h : StC w a t F) (hk : k < 24) : agI 0 w (a + 2) (nI k) = some (F 1 k) := agI_at h.2.2.1 hk (by decide)
theorem StC.w1 (h : StC w a t F) (x : Int32) (hk : k < 24) : ∃ w', asI 0 w (a + 2) (nI k) x = some w' ∧ StC w' a t (setF F 1 k x) ∧ ∀ q, (q < a ∨ a + 8 < q) → w' q = w q := ⟨_, asI_at h.2.2.1 hk (by decide), h.s1, fun q hq => wup_ne (by omega)⟩
theorem StC.q2 (h : StC w a t F) : gfR 3 2 w a = some (a + 3) := gfR_at h.1 rfl
theorem StC.r2 (h : StC w a t F) (hk : k < 24) : agI 0 w (a + 3) (nI k) = some (F 2 k) := agI_at h.2.2.2.1 hk (by decide)
theorem StC.w2 (h : StC w a t F) (x : Int32) (hk : k < 24) : ∃ w', asI 0 w (a + 3) (nI k) x = some w' ∧ StC w' a t (setF F 2 k x) ∧ ∀ q, (q < a ∨ a + 8 < q) → w' q = w q := ⟨_, asI_at h.2.2.2.1 hk (by decide), h.s2, fun q hq => wup_ne (by omega)⟩
theorem StC.q3 (h : StC w a t F) : gfR 3 3 w a = some (a + 4) := gfR_at h.1 rfl
theorem StC.r3 (h : StC w a t F) (hk : k < 24) : agI 0 w (a + 4) (nI k) = some (F 3 k) := agI_at h.2.2.2.2.1 hk (by decide)
theorem StC.w3 (h : StC w a t F) (x : Int32) (hk : k < 24) : ∃ w', asI 0 w (a + 4) (nI k) x = some w' ∧ StC w' a t (setF F 3 k x) ∧ ∀ q, (q < a ∨ a + 8 < q) → w' q = w q := ⟨_, asI_at h.2.2.2.2.1 hk (by decide), h.s3, fun q hq => wup_ne (by omega)⟩
theorem StC.q4 (h : StC w a t F) : gfR 3 4 w a = some (a + 5) := gfR_at h.1 rfl
theorem StC.r4 (h : StC w a t F) (hk : k < 24) : agI 0 w (a + 5) (nI k) = some (F 4 k) := agI_at h.2.2.2.2.2.1 hk (by decide)
theorem StC.w4 (h : StC w a t F) (x : Int32) (hk : k < 24) : ∃ w', asI 0 w (a + 5) (nI k) x = some w' ∧ StC w' a t (setF F 4 k x) ∧ ∀ q, (q < a ∨ a + 8 < q) → w' q = w q := ⟨_, asI_at h.2.2.2.2.2.1 hk (by decide), h.s4, fun q hq => wup_ne (by omega)⟩
theorem StC.q5 (h : StC w a t F) : gfR 3 5 w a = some (a + 6) := gfR_at h.1 rfl
theorem StC.r5 (h : StC w a t F) (hk : k < 4) : agI 0 w (a + 6) (nI k) = some (F 5 k) := agI_at h.2.2.2.2.2.2.1 hk (by decide)
theorem StC.w5 (h : StC w a t F) (x : Int32) (hk : k < 4) : ∃ w', asI 0 w (a + 6) (nI k) x = some w' ∧ StC w' a t (setF F 5 k x) ∧ ∀ q, (q < a ∨ a + 8 < q) → w' q = w q := ⟨_, asI_at h.2.2.2.2.2.2.1 hk (by decide), h.s5, fun q hq => wup_ne (by omega)⟩
theorem StC.q6 (h : StC w a t F) : gfR 3 6 w a = some (a + 7) := gfR_at h.1 rfl
theorem StC.r6 (h : StC w a t F) (hk : k < 4) : agI 0 w (a + 7) (nI k) = some (F 6 k) := agI_at h.2.2.2.2.2.2.2.1 hk (by decide)
theorem StC.w6 (h : StC w a t F) (x : Int32) (hk : k < 4) : ∃ w', asI 0 w (a + 7) (nI k) x = some w' ∧ StC w' a t (setF F 6 k x) ∧ ∀ q, (q < a ∨ a + 8 < q) → w' q = w q := ⟨_, asI_at h.2.2.2.2.2.2.2.1 hk (by decide), h.s6, fun q hq => wup_ne (by omega)⟩
theorem StC.q7 (h : StC w a t F) : gfR 3 7 w a = some (a + 8) := gfR_at h.1 rfl
theorem StC.r7 (h : StC w a t F) (hk : k < 4) : agI 0 w (a + 8) (nI k) = some (F 7 k) := agI_at h.2.2.2.2.2.2.2.2 hk (by decide)
theorem StC.w7 (h : StC w a t F) (x : Int32) (hk : k < 4) : ∃ w', asI 0 w (a + 8) (nI k) x = some w' ∧ StC w' a t (setF F 7 k x) ∧ ∀ q, (q < a ∨ a + 8 < q) → w' q = w q := ⟨_, asI_at h.2.2.2.2.2.2.2.2 hk (by decide), h.s7, fun q hq => wup_ne (by omega)⟩
theorem StC.i8 (h : StC w a t F) : gfI 3 8 w a = some t := gfI_at h.1 rfl
theorem StC.p8 (h : StC w a t F) (x : Int32) : ∃ w', pfV 3 8 w a (.int x) = some w' ∧ StC w' a x F ∧ ∀ q, (q < a ∨ a + 8 < q) → w' q = w q := ⟨_, pfV_at h.1 (Nat.le_of_ble_eq_true rfl), h.st, fun q hq => wup_ne (by omega)⟩
theorem StC.ck (h : StC w a t F) : chk 3 w a = some () := chk_at h.1
end SQ
abbrev FrS (w w' : Wd) (a : Nat) : Prop := ∀ q, (q < a ∨ a + 8 < q) → w' q = w q
theorem lpOf_up {S : Nat → Int32} {m c : Nat} {x : Int32} (hm : m < 120) : lpOf (upd S m x) c = lpOf S c := by
  unfold lpOf
  rw [pk_un (by omega), pk_un (by omega), pk_un (by omega)]
theorem StR.up {S : Nat → Int32} {F : Rw} {t x : Int32} {i j : Nat} (h : StR S F t) (hj : j < 5) (hi : i < 24) : StR (upd S (5 * i + j) x) (setF F j i x) t := by
  refine ⟨fun j' i' hj' hi' => ?_, fun c hc => ?_, ?_⟩
  · rw [setF_at]
    by_cases e : j' = j ∧ i' = i
    · obtain ⟨rfl, rfl⟩ := e
      rw [if_pos ⟨rfl, rfl⟩, pk_us]
    · rw [if_neg e, pk_un (by omega)]
      exact h.1 j' i' hj' hi'
  · rw [setF_row (by omega), setF_row (by omega), setF_row (by omega), pk_un (by omega), pk_un (by omega), lpOf_up (by omega)]
    exact h.2.1 c hc
  · rw [pk_un (by omega)]
    exact h.2.2
def putS (S : Nat → Int32) (i : Nat) (x y : Int32) : Nat → Int32 := upd (upd (upd S (5 * i) 1) (5 * i + 1) x) (5 * i + 2) y
def clrS (S : Nat → Int32) (i : Nat) : Nat → Int32 := upd (upd (upd (upd (upd S (5 * i) 0) (5 * i + 1) 0) (5 * i + 2) 0) (5 * i + 3) 0) (5 * i + 4) 0
def spdS (S : Nat → Int32) (i : Nat) (u v : Int32) : Nat → Int32 := upd (upd S (5 * i + 3) u) (5 * i + 4) v
theorem WF.chg {S S' : Nat → Int32} {i : Nat} (hw : WF S) (hi : i < 24) (ho : ∀ k, (k < 5 * i ∨ 5 * i + 5 ≤ k) → S' k = S k) (hp : WFp S' i) : WF S' := by
  refine ⟨fun i' hi' => ?_, fun c hc => ?_⟩
  · by_cases e : i' = i
    · rw [e]
      exact hp
    · have := hw.1 i' hi'
      unfold WFp at this ⊢
      rw [ho (5 * i') (by omega), ho (5 * i' + 1) (by omega), ho (5 * i' + 2) (by omega), ho (5 * i' + 3) (by omega), ho (5 * i' + 4) (by omega)]
      exact this
  · have := hw.2 c hc
    unfold WFc at this ⊢
    rw [ho (120 + 5 * c) (by omega), ho (121 + 5 * c) (by omega), ho (122 + 5 * c) (by omega), ho (123 + 5 * c) (by omega), ho (124 + 5 * c) (by omega)]
    exact this
theorem WF.put {S : Nat → Int32} {i x y : Nat} (hw : WF S) (hi : i < 24) (hx : x < 64) (hy : y < 64) : WF (putS S i (nI x) (nI y)) := by
  refine hw.chg hi (fun k hk => ?_) ?_
  · unfold putS
    rw [pk_un (by omega), pk_un (by omega), pk_un (by omega)]
  · obtain ⟨-, -, -, h3, h4, -⟩ := hw.1 i hi
    have e0 : putS S i (nI x) (nI y) (5 * i) = 1 := by unfold putS; rw [pk_un (by omega), pk_un (by omega), pk_us]
    have e1 : putS S i (nI x) (nI y) (5 * i + 1) = nI x := by unfold putS; rw [pk_un (by omega), pk_us]
    have e2 : putS S i (nI x) (nI y) (5 * i + 2) = nI y := by unfold putS; rw [pk_us]
    have e3 : putS S i (nI x) (nI y) (5 * i + 3) = S (5 * i + 3) := by unfold putS; rw [pk_un (by omega), pk_un (by omega), pk_un (by omega)]
    have e4 : putS S i (nI x) (nI y) (5 * i + 4) = S (5 * i + 4) := by unfold putS; rw [pk_un (by omega), pk_un (by omega), pk_un (by omega)]
    unfold WFp
    rw [e0, e1, e2, e3, e4]
    exact ⟨Or.inr rfl, ⟨x, hx, rfl⟩, ⟨y, hy, rfl⟩, h3, h4, fun z => absurd z (by decide)⟩
theorem sp0 : sp 0 := by unfold sp; decide
theorem WF.clr {S : Nat → Int32} {i : Nat} (hw : WF S) (hi : i < 24) : WF (clrS S i) := by
  refine hw.chg hi (fun k hk => ?_) ?_
  · unfold clrS
    rw [pk_un (by omega), pk_un (by omega), pk_un (by omega), pk_un (by omega), pk_un (by omega)]
  · have e : ∀ j, j < 5 → clrS S i (5 * i + j) = 0 := fun j hj => by
      unfold clrS upd
      rcases i5 hj with rfl | rfl | rfl | rfl | rfl <;> simp
    have e0 : clrS S i (5 * i) = 0 := e 0 (by decide)
    unfold WFp
    rw [e0, e 1 (by decide), e 2 (by decide), e 3 (by decide), e 4 (by decide)]
    exact ⟨Or.inl rfl, ⟨0, by decide, rfl⟩, ⟨0, by decide, rfl⟩, sp0, sp0, fun _ => ⟨rfl, rfl, rfl, rfl⟩⟩
theorem WF.spd {S : Nat → Int32} {i : Nat} {u v : Int32} (hw : WF S) (hi : i < 24) (ht : S (5 * i) ≠ 0) (hu : sp u) (hv : sp v) : WF (spdS S i u v) := by
  refine hw.chg hi (fun k hk => ?_) ?_
  · unfold spdS
    rw [pk_un (by omega), pk_un (by omega)]
  · obtain ⟨h0, h1, h2, -, -, -⟩ := hw.1 i hi
    have e0 : spdS S i u v (5 * i) = S (5 * i) := by unfold spdS; rw [pk_un (by omega), pk_un (by omega)]
    have e1 : spdS S i u v (5 * i + 1) = S (5 * i + 1) := by unfold spdS; rw [pk_un (by omega), pk_un (by omega)]
    have e2 : spdS S i u v (5 * i + 2) = S (5 * i + 2) := by unfold spdS; rw [pk_un (by omega), pk_un (by omega)]
    have e3 : spdS S i u v (5 * i + 3) = u := by unfold spdS; rw [pk_un (by omega), pk_us]
    have e4 : spdS S i u v (5 * i + 4) = v := by unfold spdS; rw [pk_us]
    unfold WFp
    rw [e0, e1, e2, e3, e4]
    exact ⟨h0, h1, h2, hu, hv, fun z => absurd z ht⟩
theorem nar1 : vp_nar .boolean 1 = 1 := rfl
theorem nar0 : vp_nar .boolean 0 = 0 := rfl
theorem m_put {n : Nat} {w : Wd} {a i : Nat} {x y : Int32} {S : Nat → Int32} (h : StW w a S) (hi : i < 24) : ∃ w', m_X4_put n w a (nI i) x y = some w' ∧ StW w' a (putS S i x y) ∧ FrS w w' a := by
  obtain ⟨F, t, h0, hR⟩ := h
  obtain ⟨w1, e1, h1, q1⟩ := h0.w0 1 hi
  obtain ⟨w2, e2, h2, q2⟩ := h1.w1 x hi
  obtain ⟨w3, e3, h3, q3⟩ := h2.w2 y hi
  refine ⟨w3, ?_, ⟨_, t, h3, ((hR.up (j := 0) (by decide) hi).up (j := 1) (by decide) hi).up (j := 2) (by decide) hi⟩, fun q hq => (q3 q hq).trans ((q2 q hq).trans (q1 q hq))⟩
  rw [m_X4_put, h0.q0, Option.bind_some, nar1, e1, Option.bind_some, h1.q1, Option.bind_some, e2, Option.bind_some, h2.q2, Option.bind_some, e3, Option.bind_some]
theorem m_clr {n : Nat} {w : Wd} {a i : Nat} {S : Nat → Int32} (h : StW w a S) (hi : i < 24) : ∃ w', m_X4_clear n w a (nI i) = some w' ∧ StW w' a (clrS S i) ∧ FrS w w' a := by
  obtain ⟨F, t, h0, hR⟩ := h
  obtain ⟨w1, e1, h1, q1⟩ := h0.w0 0 hi
  obtain ⟨w2, e2, h2, q2⟩ := h1.w1 0 hi
  obtain ⟨w3, e3, h3, q3⟩ := h2.w2 0 hi
  obtain ⟨w4, e4, h4, q4⟩ := h3.w3 0 hi
  obtain ⟨w5, e5, h5, q5⟩ := h4.w4 0 hi
  refine ⟨w5, ?_, ⟨_, t, h5, ((((hR.up (j := 0) (by decide) hi).up (j := 1) (by decide) hi).up (j := 2) (by decide) hi).up (j := 3) (by decide) hi).up (j := 4) (by decide) hi⟩, fun q hq => (q5 q hq).trans ((q4 q hq).trans ((q3 q hq).trans ((q2 q hq).trans (q1 q hq))))⟩
  rw [m_X4_clear, h0.q0, Option.bind_some, nar0, e1, Option.bind_some, h1.q1, Option.bind_some, e2, Option.bind_some, h2.q2, Option.bind_some, e3, Option.bind_some, h3.q3, Option.bind_some, e4, Option.bind_some, h4.q4, Option.bind_some, e5, Option.bind_some]
/-! steps -/
def st1 (x u : Int32) : Int32 := m_X4_reflected (x + u)
def st2 (x u : Int32) : Int32 := if m_X4_reflected (x + u) = x + u then u else -u
theorem st_a : ∀ x, x < 64 → ∀ k, k < 19 → (0 ≤ nI x + (nI k - 9) ∧ nI x + (nI k - 9) ≤ 63) → (st1 (nI x) (nI k - 9) = nI x + (nI k - 9) ∧ st2 (nI x) (nI k - 9) = nI k - 9) := by decide +kernel
theorem st_b : ∀ x, x < 64 → ∀ k, k < 19 → (0 ≤ nI x + (nI k - 9) ∧ ¬ nI x + (nI k - 9) ≤ 63) → (st1 (nI x) (nI k - 9) = 126 - (nI x + (nI k - 9)) ∧ st2 (nI x) (nI k - 9) = -(nI k - 9)) := by decide +kernel
theorem st_c : ∀ x, x < 64 → ∀ k, k < 19 → ¬ 0 ≤ nI x + (nI k - 9) → (st1 (nI x) (nI k - 9) = -(nI x + (nI k - 9)) ∧ st2 (nI x) (nI k - 9) = -(nI k - 9)) := by decide +kernel
theorem st_d : ∀ x, x < 64 → ∀ k, k < 19 → (st1 (nI x) (nI k - 9)).toNatClampNeg < 64 ∧ st1 (nI x) (nI k - 9) = nI (st1 (nI x) (nI k - 9)).toNatClampNeg := by decide +kernel
theorem st_e : ∀ x, x < 64 → ∀ k, k < 19 → -9 ≤ (st2 (nI x) (nI k - 9)).toInt ∧ (st2 (nI x) (nI k - 9)).toInt ≤ 9 := by decide +kernel
theorem sp_ex {v : Int32} (h : sp v) : ∃ k, k < 19 ∧ v = nI k - 9 := by
  obtain ⟨h1, h2⟩ := h
  refine ⟨(v.toInt + 9).toNat, by omega, Int32.toInt_inj.mp ?_⟩
  rw [show (9 : Int32) = nI 9 from rfl, pk_sub_toInt (by omega) (by omega)]
  omega
theorem st_ok {x u : Int32} (hx : N64 x) (hu : sp u) : (0 ≤ x + u → x + u ≤ 63 → st1 x u = x + u ∧ st2 x u = u) ∧ (0 ≤ x + u → ¬ x + u ≤ 63 → st1 x u = 126 - (x + u) ∧ st2 x u = -u) ∧ (¬ 0 ≤ x + u → st1 x u = -(x + u) ∧ st2 x u = -u) ∧ N64 (st1 x u) ∧ sp (st2 x u) := by
  obtain ⟨i, hi, rfl⟩ := hx
  obtain ⟨k, hk, rfl⟩ := sp_ex hu
  obtain ⟨d1, d2⟩ := st_d i hi k hk
  exact ⟨fun a b => st_a i hi k hk ⟨a, b⟩, fun a b => st_b i hi k hk ⟨a, b⟩, st_c i hi k hk, ⟨_, d1, d2⟩, st_e i hi k hk⟩
def stepO (S : Nat → Int32) (i : Nat) : Nat → Int32 := upd (upd (upd (upd S (5 * i + 1) (st1 (S (5 * i + 1)) (S (5 * i + 3)))) (5 * i + 2) (st1 (S (5 * i + 2)) (S (5 * i + 4)))) (5 * i + 3) (st2 (S (5 * i + 1)) (S (5 * i + 3)))) (5 * i + 4) (st2 (S (5 * i + 2)) (S (5 * i + 4)))
def stepK (S : Nat → Int32) : Nat → Nat → Int32
  | 0 => S
  | k + 1 => stepO (stepK S k) k
def stepS (S : Nat → Int32) : Nat → Int32 := upd (stepK S 24) 140 (stepK S 24 140 + 1)
theorem WF.oneO {S : Nat → Int32} {i : Nat} (hw : WF S) (hi : i < 24) : WF (stepO S i) := by
  refine hw.chg hi (fun k hk => ?_) ?_
  · unfold stepO
    rw [pk_un (by omega), pk_un (by omega), pk_un (by omega), pk_un (by omega)]
  · obtain ⟨h0, h1, h2, h3, h4, h5⟩ := hw.1 i hi
    have e0 : stepO S i (5 * i) = S (5 * i) := by unfold stepO; rw [pk_un (by omega), pk_un (by omega), pk_un (by omega), pk_un (by omega)]
    have e1 : stepO S i (5 * i + 1) = st1 (S (5 * i + 1)) (S (5 * i + 3)) := by unfold stepO; rw [pk_un (by omega), pk_un (by omega), pk_un (by omega), pk_us]
    have e2 : stepO S i (5 * i + 2) = st1 (S (5 * i + 2)) (S (5 * i + 4)) := by unfold stepO; rw [pk_un (by omega), pk_un (by omega), pk_us]
    have e3 : stepO S i (5 * i + 3) = st2 (S (5 * i + 1)) (S (5 * i + 3)) := by unfold stepO; rw [pk_un (by omega), pk_us]
    have e4 : stepO S i (5 * i + 4) = st2 (S (5 * i + 2)) (S (5 * i + 4)) := by unfold stepO; rw [pk_us]
    unfold WFp
    rw [e0, e1, e2, e3, e4]
    refine ⟨h0, (st_ok h1 h3).2.2.2.1, (st_ok h2 h4).2.2.2.1, (st_ok h1 h3).2.2.2.2, (st_ok h2 h4).2.2.2.2, fun z => ?_⟩
    obtain ⟨z1, z2, z3, z4⟩ := h5 z
    rw [z1, z2, z3, z4]
    decide
theorem WF.oneK {S : Nat → Int32} (hw : WF S) : ∀ {k : Nat}, k ≤ 24 → WF (stepK S k)
  | 0, _ => hw
  | k + 1, h => (WF.oneK hw (k := k) (by omega)).oneO (by omega)
theorem WF.t140 {S : Nat → Int32} {x : Int32} (hw : WF S) : WF (upd S 140 x) := by
  refine ⟨fun i hi => ?_, fun c hc => ?_⟩
  · have := hw.1 i hi
    unfold WFp at this ⊢
    rw [pk_un (by omega), pk_un (by omega), pk_un (by omega), pk_un (by omega), pk_un (by omega)]
    exact this
  · have := hw.2 c hc
    unfold WFc at this ⊢
    rw [pk_un (by omega), pk_un (by omega), pk_un (by omega), pk_un (by omega), pk_un (by omega)]
    exact this
theorem WF.oneS {S : Nat → Int32} (hw : WF S) : WF (stepS S) := (hw.oneK (Nat.le_refl 24)).t140
theorem StR.t140 {S : Nat → Int32} {F : Rw} {t x : Int32} (h : StR S F t) : StR (upd S 140 x) F x := by
  refine ⟨fun j i hj hi => ?_, fun c hc => ?_, by rw [pk_us]⟩
  · rw [pk_un (by omega)]
    exact h.1 j i hj hi
  · unfold lpOf
    rw [pk_un (by omega), pk_un (by omega), pk_un (by omega), pk_un (by omega), pk_un (by omega)]
    exact h.2.1 c hc
theorem m_step {n : Nat} (hn : 30 ≤ n) {w : Wd} {a : Nat} {S : Nat → Int32} (h : StW w a S) : ∃ w', m_X4_step n w a = some w' ∧ StW w' a (stepS S) ∧ FrS w w' a := by
  unfold m_X4_step
  refine lp (σ := Wd) (fun t k w => m_X4_step_p2 n t w a (nI k)) (fun k v => StW v a (stepK S k) ∧ FrS w v a) _ 24 ?_ ?_ 24 0 n w rfl (by omega) ⟨h, fun _ _ => rfl⟩
  · rintro t k v hk ⟨⟨F, t0, h0, hR⟩, hq⟩
    left
    have f1 : F 1 k = stepK S k (5 * k + 1) := hR.1 1 k (by decide) hk
    have f2 : F 2 k = stepK S k (5 * k + 2) := hR.1 2 k (by decide) hk
    have f3 : F 3 k = stepK S k (5 * k + 3) := hR.1 3 k (by decide) hk
    have f4 : F 4 k = stepK S k (5 * k + 4) := hR.1 4 k (by decide) hk
    obtain ⟨w1, e1, h1, q1⟩ := h0.w1 (st1 (F 1 k) (F 3 k)) hk
    obtain ⟨w2, e2, h2, q2⟩ := h1.w2 (st1 (F 2 k) (F 4 k)) hk
    obtain ⟨w3, e3, h3, q3⟩ := h2.w3 (st2 (F 1 k) (F 3 k)) hk
    obtain ⟨w4, e4, h4, q4⟩ := h3.w4 (st2 (F 2 k) (F 4 k)) hk
    have x1 : setF (setF F 1 k (st1 (F 1 k) (F 3 k))) 2 k (st1 (F 2 k) (F 4 k)) 1 k = st1 (F 1 k) (F 3 k) := by rw [setF_row (by decide), setF_self]
    have x3 : setF (setF F 1 k (st1 (F 1 k) (F 3 k))) 2 k (st1 (F 2 k) (F 4 k)) 3 k = F 3 k := by rw [setF_row (by decide), setF_row (by decide)]
    have x2 : setF (setF (setF F 1 k (st1 (F 1 k) (F 3 k))) 2 k (st1 (F 2 k) (F 4 k))) 3 k (st2 (F 1 k) (F 3 k)) 2 k = st1 (F 2 k) (F 4 k) := by rw [setF_row (by decide), setF_self]
    have x4 : setF (setF (setF F 1 k (st1 (F 1 k) (F 3 k))) 2 k (st1 (F 2 k) (F 4 k))) 3 k (st2 (F 1 k) (F 3 k)) 4 k = F 4 k := by rw [setF_row (by decide), setF_row (by decide), setF_row (by decide)]
    refine ⟨w4, ?_, ⟨_, t0, h4, ?_⟩, fun q hq1 => (q4 q hq1).trans ((q3 q hq1).trans ((q2 q hq1).trans ((q1 q hq1).trans (hq q hq1))))⟩
    · have c3 : (if st1 (F 1 k) (F 3 k) = F 1 k + F 3 k then asI 0 w2 (a + 4) (nI k) (F 3 k) else asI 0 w2 (a + 4) (nI k) (-(F 3 k))) = some w3 := by
        rw [← e3]
        unfold st2 st1
        split <;> rfl
      have c4 : (if st1 (F 2 k) (F 4 k) = F 2 k + F 4 k then asI 0 w3 (a + 5) (nI k) (F 4 k) else asI 0 w3 (a + 5) (nI k) (-(F 4 k))) = some w4 := by
        rw [← e4]
        unfold st2 st1
        split <;> rfl
      show m_X4_step_p2 n (t + 1) v a (nI k) = _
      rw [m_X4_step_p2, if_neg (show ¬ (24 : Int32) ≤ nI k from nI_ge hk (by decide))]
      simp only [h0.q1, h0.q2, h0.q3, h0.q4, h0.r1 hk, h0.r2 hk, h0.r3 hk, h0.r4 hk, Option.bind_some]
      rw [show m_X4_reflected (F 1 k + F 3 k) = st1 (F 1 k) (F 3 k) from rfl, show m_X4_reflected (F 2 k + F 4 k) = st1 (F 2 k) (F 4 k) from rfl, e1, Option.bind_some, h1.q2, Option.bind_some, e2, Option.bind_some]
      simp only [h2.q1, h2.q3, h2.r1 hk, h2.r3 hk, Option.bind_some, x1, x3]
      by_cases d : st1 (F 1 k) (F 3 k) = F 1 k + F 3 k
      · rw [if_pos d] at c3 ⊢
        rw [c3, Option.bind_some]
        simp only [h3.q2, h3.q4, h3.r2 hk, h3.r4 hk, Option.bind_some, x2, x4]
        by_cases d2 : st1 (F 2 k) (F 4 k) = F 2 k + F 4 k
        · rw [if_pos d2] at c4 ⊢
          rw [c4, Option.bind_some, nI_1]
        · rw [if_neg d2] at c4 ⊢
          rw [c4, Option.bind_some, nI_1]
      · rw [if_neg d] at c3 ⊢
        rw [c3, Option.bind_some]
        simp only [h3.q2, h3.q4, h3.r2 hk, h3.r4 hk, Option.bind_some, x2, x4]
        by_cases d2 : st1 (F 2 k) (F 4 k) = F 2 k + F 4 k
        · rw [if_pos d2] at c4 ⊢
          rw [c4, Option.bind_some, nI_1]
        · rw [if_neg d2] at c4 ⊢
          rw [c4, Option.bind_some, nI_1]
    · rw [f1, f2, f3, f4]
      exact (((hR.up (j := 1) (by decide) hk).up (j := 2) (by decide) hk).up (j := 3) (by decide) hk).up (j := 4) (by decide) hk
  · rintro t v ⟨⟨F, t0, h0, hR⟩, hq⟩
    obtain ⟨w1, e1, h1, q1⟩ := h0.p8 (t0 + 1)
    refine ⟨w1, ?_, ⟨F, _, h1, ?_⟩, fun q hq1 => (q1 q hq1).trans (hq q hq1)⟩
    · show m_X4_step_p2 n (t + 1) v a (nI 24) = _
      rw [m_X4_step_p2, if_pos (by decide), m_X4_step_p126, h0.i8, Option.bind_some, e1, Option.bind_some]
    · have := hR.t140 (x := t0 + 1)
      rw [hR.2.2] at this ⊢
      exact this
end
section
/-! THE CLASS'S INVARIANT, and its changes -/
def FSp (h fo sp : Nat) : Prop := fo = h + 51 ∧ sp = h + 69 ∨ fo = h + 69 ∧ sp = h + 51
/-- the points are those of S', the forest is still that of S -/
def ClJ (w : Wd) (h : Nat) (S S' : Nat → Int32) (P : Nat → Nat → Int32) (c : Nat) : Prop :=
  StW w (h + 1) S' ∧ (∃ t, Rg w h t c P) ∧ ∃ fo sp, FSp h fo sp ∧ ObC w h fo sp ∧ FoC w fo S ∧ FoX w sp
abbrev ClI (w : Wd) (h : Nat) (S : Nat → Int32) (P : Nat → Nat → Int32) (c : Nat) : Prop := ClJ w h S S P c
abbrev FrC (w w' : Wd) (h : Nat) : Prop := ∀ q, (q < h ∨ h + 47 < q ∧ q < h + 51 ∨ h + 86 < q) → w' q = w q
section CJ
variable {n h c i : Nat} {w w' : Wd} {S S' : Nat → Int32} {P : Nat → Nat → Int32}
theorem ClJ.frame (g : ClJ w h S S' P c) (hq : ∀ q, h ≤ q → q ≤ h + 86 → (q ≤ h + 47 ∨ h + 51 ≤ q) → w' q = w q) : ClJ w' h S S' P c := by
  obtain ⟨h1, ⟨t, h2⟩, fo, sp, h3, h4, h5, h6⟩ := g
  refine ⟨h1.frame fun q a b => hq q (by omega) (by omega) (by omega), ⟨t, h2.frame fun q a b => hq q (by omega) (by omega) (by omega)⟩, fo, sp, h3, ?_, h5.frame fun q a b => ?_, h6.frame fun q a b => ?_⟩
  · unfold ObC
    rw [hq h (by omega) (by omega) (by omega)]
    exact h4
  · unfold FSp at h3
    exact hq q (by omega) (by omega) (by omega)
  · unfold FSp at h3
    exact hq q (by omega) (by omega) (by omega)
theorem ClJ.n0 (g : ClJ w h S S' P c) : gfR 5 0 w h = some (h + 1) := by
  obtain ⟨-, -, fo, sp, -, h4, -, -⟩ := g
  exact gfR_at h4 rfl
theorem ClJ.n1 (g : ClJ w h S S' P c) : gfR 5 1 w h = some (h + 10) := by
  obtain ⟨-, -, fo, sp, -, h4, -, -⟩ := g
  exact gfR_at h4 rfl
theorem ClJ.n2 (g : ClJ w h S S' P c) : gfR 5 2 w h = some (h + 48) := by
  obtain ⟨-, -, fo, sp, -, h4, -, -⟩ := g
  exact gfR_at h4 rfl
theorem ClJ.ck (g : ClJ w h S S' P c) : chk 5 w h = some () := by
  obtain ⟨-, -, fo, sp, -, h4, -, -⟩ := g
  exact chk_at h4
theorem ClJ.ck3 (g : ClJ w h S S' P c) : chk 3 w (h + 1) = some () := by
  obtain ⟨⟨F, t, h1, -⟩, -⟩ := g
  exact chk_at h1.1
theorem ClJ.ck4 (g : ClJ w h S S' P c) : chk 4 w (h + 10) = some () := by
  obtain ⟨-, ⟨t, -, -, h1, -⟩, -⟩ := g
  exact chk_at h1.1
theorem ClJ.cnt (g : ClJ w h S S' P c) : gfI 4 2 w (h + 10) = some (nI c) := by
  obtain ⟨-, ⟨t, -, -, h1, -⟩, -⟩ := g
  exact gfI_at h1.1 rfl
/-- a change of the state's own cells -/
theorem ClJ.st {T : Nat → Int32} (g : ClJ w h S S' P c) (h1 : StW w' (h + 1) T) (hq : FrS w w' (h + 1)) : ClJ w' h S T P c ∧ FrC w w' h := by
  obtain ⟨-, ⟨t, h2⟩, fo, sp, h3, h4, h5, h6⟩ := g
  refine ⟨⟨h1, ⟨t, h2.frame fun q a b => hq q (by omega)⟩, fo, sp, h3, ?_, h5.frame fun q a b => ?_, h6.frame fun q a b => ?_⟩, fun q a => hq q (by omega)⟩
  · unfold ObC
    rw [hq h (by omega)]
    exact h4
  · unfold FSp at h3
    exact hq q (by omega)
  · unfold FSp at h3
    exact hq q (by omega)
theorem m_put6 {x y : Int32} (g : ClJ w h S S' P c) (hi : i < 24) : ∃ w', m_X4_put n w (h + 1) (nI i) x y = some w' ∧ ClJ w' h S (putS S' i x y) P c ∧ FrC w w' h := by
  obtain ⟨w1, e1, h1, q1⟩ := m_put (n := n) (x := x) (y := y) g.1 hi
  exact ⟨w1, e1, g.st h1 q1⟩
theorem m_settle6 (hn : 80 ≤ n) (g : ClJ w h S S' P c) (hw : WF S) (hw' : WF S') : ∃ w', m_X6_settle n w h = some (nI (touK S S' 5), w') ∧ ClI w' h S' P c ∧ FrC w w' h := by
  obtain ⟨h1, ⟨t, h2⟩, fo, sp, h3, h4, h5, h6⟩ := g
  unfold FSp at h3
  obtain ⟨w1, e1, a1, a2, a3, q1⟩ := m_settle hn h4 h5 h6 h1 hw hw' (by omega) (by omega) (by omega)
  refine ⟨w1, e1, ⟨h1.frame fun q a b => q1 q (by omega) (by omega), ⟨t, h2.frame fun q a b => q1 q (by omega) (by omega)⟩, sp, fo, ?_, a1, a2, a3.x⟩, fun q a => q1 q (by omega) (by omega)⟩
  unfold FSp
  omega
theorem m_place6 {x y : Nat} (hn : 80 ≤ n) (g : ClI w h S P c) (hw : WF S) (hi : i < 24) (hx : x < 64) (hy : y < 64) : ∃ w', m_X6_place n w h (nI i) (nI x) (nI y) = some (nI (touK S (putS S i (nI x) (nI y)) 5), w') ∧ ClI w' h (putS S i (nI x) (nI y)) P c ∧ FrC w w' h := by
  obtain ⟨w1, e1, h1, q1⟩ := m_put6 (n := n) (x := nI x) (y := nI y) g hi
  obtain ⟨w2, e2, h2, q2⟩ := m_settle6 hn h1 hw (hw.put hi hx hy)
  refine ⟨w2, ?_, h2, fun q a => (q2 q a).trans (q1 q a)⟩
  rw [m_X6_place, g.n0, Option.bind_some, g.ck3, Option.bind_some, e1, Option.bind_some, h1.ck, Option.bind_some, e2, Option.bind_some]
theorem m_takeOut6 (hn : 80 ≤ n) (g : ClI w h S P c) (hw : WF S) (hi : i < 24) : ∃ w', m_X6_takeOut n w h (nI i) = some (nI (touK S (clrS S i) 5), w') ∧ ClI w' h (clrS S i) P c ∧ FrC w w' h := by
  obtain ⟨w1, e1, h1, q1⟩ := m_clr (n := n) g.1 hi
  obtain ⟨h1, q1⟩ := g.st h1 q1
  obtain ⟨w2, e2, h2, q2⟩ := m_settle6 hn h1 hw (hw.clr hi)
  refine ⟨w2, ?_, h2, fun q a => (q2 q a).trans (q1 q a)⟩
  rw [m_X6_takeOut, g.n0, Option.bind_some, g.ck3, Option.bind_some, e1, Option.bind_some, h1.ck, Option.bind_some, e2, Option.bind_some]
/-- rows with the same points have the same forest -/
def SameP (S S' : Nat → Int32) : Prop := ∀ i, i < 24 → S' (5 * i) = S (5 * i) ∧ S' (5 * i + 1) = S (5 * i + 1) ∧ S' (5 * i + 2) = S (5 * i + 2)
theorem SameP.ids (h : SameP S S') : ∀ {k : Nat}, k ≤ 24 → idsS S' k = idsS S k := by
  intro k hk
  unfold idsS
  refine List.filter_congr fun i hi => ?_
  rw [(h i (Nat.lt_of_lt_of_le (List.mem_range.mp hi) hk)).1]
theorem SameP.code (h : SameP S S') (hi : i < 24) : codeS S' i = codeS S i := by
  unfold codeS
  rw [(h i hi).2.1, (h i hi).2.2]
theorem SameP.es (h : SameP S S') {es : List Nat} (g : EsOf S 24 es) : EsOf S' 24 es := by
  refine ⟨g.1, ?_⟩
  rw [h.ids (Nat.le_refl _), show (idsS S 24).map (ent S') = (idsS S 24).map (ent S) from List.map_congr_left fun i hi => by
    unfold ent
    rw [h.code (idsS_mem.mp hi).1]]
  exact g.2
theorem SameP.fo (h : SameP S S') {a : Nat} (g : FoC w a S) : FoC w a S' := by
  obtain ⟨h1, es, h2, h3, h4⟩ := g
  exact ⟨h1, es, h2, h.es h3, h4⟩
theorem ClJ.same (g : ClJ w h S S' P c) (e : SameP S S') : ClI w h S' P c := by
  obtain ⟨h1, h2, fo, sp, h3, h4, h5, h6⟩ := g
  exact ⟨h1, h2, fo, sp, h3, h4, e.fo h5, h6⟩
theorem same_spd {u v : Int32} : SameP S (spdS S i u v) := fun j hj => by
  unfold spdS
  refine ⟨?_, ?_, ?_⟩ <;> rw [pk_un (by omega), pk_un (by omega)]
theorem m_setSpeed6 {u v : Int32} (g : ClI w h S P c) (hi : i < 24) : ∃ w', m_X6_setSpeed n w h (nI i) u v = some w' ∧ ClI w' h (spdS S i u v) P c ∧ FrC w w' h := by
  obtain ⟨F, t, h0, hR⟩ := g.1
  obtain ⟨w1, e1, h1, q1⟩ := h0.w3 u hi
  obtain ⟨g1, qq1⟩ := g.st ⟨_, t, h1, hR.up (j := 3) (by decide) hi⟩ q1
  obtain ⟨w2, e2, h2, q2⟩ := h1.w4 v hi
  obtain ⟨g2, qq2⟩ := g1.st ⟨_, t, h2, (hR.up (j := 3) (by decide) hi).up (j := 4) (by decide) hi⟩ q2
  refine ⟨w2, ?_, g2.same same_spd, fun q a => (qq2 q a).trans (qq1 q a)⟩
  rw [m_X6_setSpeed, g.n0, Option.bind_some, h0.q3, Option.bind_some, e1, Option.bind_some, g1.n0, Option.bind_some, h1.q4, Option.bind_some, e2, Option.bind_some]
/-- ticks -/
def stepN (S : Nat → Int32) : Nat → Nat → Int32
  | 0 => S
  | k + 1 => stepS (stepN S k)
noncomputable def pasT (S : Nat → Int32) : Nat → Nat
  | 0 => 0
  | k + 1 => pasT S k + touK (stepN S k) (stepN S (k + 1)) 5
theorem WF.oneN (hw : WF S) : ∀ (k : Nat), WF (stepN S k)
  | 0 => hw
  | k + 1 => (WF.oneN hw k).oneS
theorem m_letPass6 {m : Nat} (hn : 80 ≤ n) (g : ClI w h S P c) (hw : WF S) (hm : m ≤ 50) : ∃ w', m_X6_letPass n w h (nI m) = some (nI (pasT S m), w') ∧ ClI w' h (stepN S m) P c ∧ FrC w w' h := by
  unfold m_X6_letPass
  obtain ⟨r, e, w2, rfl, h1, h2⟩ := lp (σ := Wd) (R := Int32 × Wd) (fun t k v => m_X6_letPass_p4 n t v h (nI m) (nI (pasT S k)) (nI k)) (fun k v => ClI v h (stepN S k) P c ∧ FrC w v h) (fun r => ∃ w2, r = (nI (pasT S m), w2) ∧ ClI w2 h (stepN S m) P c ∧ FrC w w2 h) m (by
    rintro t k v hk ⟨h0, hq⟩
    left
    obtain ⟨w1, e1, h1, q1⟩ := m_step (n := n) (by omega) h0.1
    obtain ⟨h1, q1⟩ := h0.st h1 q1
    obtain ⟨w2, e2, h2, q2⟩ := m_settle6 hn h1 (hw.oneN k) (hw.oneN (k + 1))
    refine ⟨w2, ?_, h2, fun q a => (q2 q a).trans ((q1 q a).trans (hq q a))⟩
    show m_X6_letPass_p4 n (t + 1) v h (nI m) (nI (pasT S k)) (nI k) = _
    rw [m_X6_letPass_p4, if_neg (nI_ge hk (by omega)), h0.n0, Option.bind_some, h0.ck3, Option.bind_some, e1, Option.bind_some, h1.ck, Option.bind_some, e2, Option.bind_some, nI_add, nI_1]
    rfl) (by
    rintro t v ⟨h0, hq⟩
    refine ⟨(nI (pasT S m), v), ?_, v, rfl, h0, hq⟩
    show m_X6_letPass_p4 n (t + 1) v h (nI m) (nI (pasT S m)) (nI m) = _
    rw [m_X6_letPass_p4, if_pos (Int32.le_refl _)]) m 0 n w (by omega) (by omega) ⟨g, fun _ _ => rfl⟩
  exact ⟨w2, e, h1, h2⟩
theorem m_push6 (hn : 80 ≤ n) (g : ClI w h S P c) (hw : WF S) : ∃ w', m_X5_push n w (h + 10) (h + 1) = some w' ∧ ClI w' h S (pshP c S P) (min (c + 1) 4) ∧ FrC w w' h := by
  obtain ⟨h1, ⟨t, h2⟩, fo, sp, h3, h4, h5, h6⟩ := g
  obtain ⟨w1, e1, a1, q1⟩ := m_push (n := n) (by omega) h1 hw h2
  refine ⟨w1, e1, ⟨h1.frame fun q a b => q1 q (by omega), ⟨_, a1⟩, fo, sp, h3, ?_, h5.frame fun q a b => ?_, h6.frame fun q a b => ?_⟩, fun q a => q1 q (by omega)⟩
  · unfold ObC
    rw [q1 h (by omega)]
    exact h4
  · unfold FSp at h3
    exact q1 q (by omega)
  · unfold FSp at h3
    exact q1 q (by omega)
/-! what is refused -/
theorem ins_c (a : Int32) {m : Nat} (hm : m < 2 ^ 31) : m_X6_inside a 0 (nI m) = 0 ∨ m_X6_inside a 0 (nI m) = 1 ∧ ∃ i, i ≤ m ∧ a = nI i := by
  unfold m_X6_inside
  by_cases h1 : a < 0
  · exact Or.inl (if_pos h1)
  · rw [if_neg h1]
    by_cases h2 : nI m < a
    · exact Or.inl (if_pos h2)
    · rw [if_neg h2]
      obtain ⟨j, hj, e⟩ := nI_of2 (nI_toInt hm) h1 (Int32.not_lt.mp h2)
      exact Or.inr ⟨rfl, j, hj, e⟩
theorem ins_1 {i m : Nat} (hm : m < 2 ^ 31) (h : i ≤ m) : m_X6_inside (nI i) 0 (nI m) = 1 := by
  unfold m_X6_inside
  rw [if_neg (nI_pos (by omega)), if_neg (nI_nlt h hm)]
theorem id_c (a : Int32) : m_X6_isId a = 0 ∨ m_X6_isId a = 1 ∧ ∃ i, i < 24 ∧ a = nI i := by
  rcases ins_c a (m := 23) (by decide) with e | ⟨e, i, hi, rfl⟩
  · exact Or.inl e
  · exact Or.inr ⟨e, i, by omega, rfl⟩
theorem id_1 {i : Nat} (h : i < 24) : m_X6_isId (nI i) = 1 := ins_1 (m := 23) (by decide) (by omega)
theorem pl_c (x y : Int32) : m_X6_isPosition x y = 0 ∨ m_X6_isPosition x y = 1 ∧ ∃ i j, i < 64 ∧ j < 64 ∧ x = nI i ∧ y = nI j := by
  unfold m_X6_isPosition
  rcases ins_c x (m := 63) (by decide) with e | ⟨e, i, hi, rfl⟩
  · exact Or.inl (if_pos e)
  · rw [if_neg (show ¬ m_X6_inside (nI i) 0 63 = 0 from fun q => absurd (q.symm.trans e) (by decide))]
    rcases ins_c y (m := 63) (by decide) with e | ⟨e, j, hj, rfl⟩
    · exact Or.inl (if_pos e)
    · rw [if_neg (show ¬ m_X6_inside (nI j) 0 63 = 0 from fun q => absurd (q.symm.trans e) (by decide))]
      exact Or.inr ⟨rfl, i, j, by omega, by omega, rfl, rfl⟩
theorem pl_1 {x y : Nat} (hx : x < 64) (hy : y < 64) : m_X6_isPosition (nI x) (nI y) = 1 := by
  unfold m_X6_isPosition
  rw [if_neg (by rw [show (63 : Int32) = nI 63 from rfl, ins_1 (by decide) (by omega)]; decide), if_neg (by rw [show (63 : Int32) = nI 63 from rfl, ins_1 (by decide) (by omega)]; decide)]
theorem sp_c (u : Int32) : m_X6_inside u (-9) 9 = 0 ∨ m_X6_inside u (-9) 9 = 1 ∧ sp u := by
  unfold m_X6_inside
  by_cases h1 : u < -9
  · exact Or.inl (if_pos h1)
  · rw [if_neg h1]
    by_cases h2 : 9 < u
    · exact Or.inl (if_pos h2)
    · rw [if_neg h2]
      exact Or.inr ⟨rfl, Int32.le_iff_toInt_le.mp (Int32.not_lt.mp h1), Int32.le_iff_toInt_le.mp (Int32.not_lt.mp h2)⟩
theorem m_refP {a x y e : Int32} (g : ClJ w h S S' P c) : m_X6_refusalOfPlace n w h a x y e = some (if m_X6_isId a = 0 then 1 else if m_X6_isPosition x y = 0 then 2 else if S' (5 * a.toNatClampNeg) = e then 0 else 3) := by
  unfold m_X6_refusalOfPlace
  rcases id_c a with h1 | ⟨h1, i, hi, rfl⟩
  · rw [if_pos h1, if_pos h1]
  · have h1' : ¬ m_X6_isId (nI i) = 0 := by rw [h1]; decide
    rw [if_neg h1', if_neg h1']
    by_cases h2 : m_X6_isPosition x y = 0
    · rw [if_pos h2, if_pos h2]
    · obtain ⟨F, t, h0, hR⟩ := g.1
      rw [if_neg h2, if_neg h2, g.n0, Option.bind_some, h0.q0, Option.bind_some, h0.r0 hi, Option.bind_some, hR.1 0 i (by decide) hi, nI_clamp (by omega), Nat.add_zero]
      by_cases h3 : S' (5 * i) = e
      · rw [if_pos h3, if_pos h3]
      · rw [if_neg h3, if_neg h3]
theorem m_refD {a : Int32} (g : ClJ w h S S' P c) : m_X6_refusalOfDrop n w h a = some (if m_X6_isId a = 0 then 1 else if S' (5 * a.toNatClampNeg) = 0 then 3 else 0) := by
  unfold m_X6_refusalOfDrop
  rcases id_c a with h1 | ⟨h1, i, hi, rfl⟩
  · rw [if_pos h1, if_pos h1]
  · obtain ⟨F, t, h0, hR⟩ := g.1
    have h1' : ¬ m_X6_isId (nI i) = 0 := by rw [h1]; decide
    rw [if_neg h1', if_neg h1', g.n0, Option.bind_some, h0.q0, Option.bind_some, h0.r0 hi, Option.bind_some, hR.1 0 i (by decide) hi, nI_clamp (by omega), Nat.add_zero]
    by_cases h3 : S' (5 * i) = 0
    · rw [if_pos h3, if_pos h3]
    · rw [if_neg h3, if_neg h3]
theorem m_refS {a u v : Int32} (g : ClJ w h S S' P c) : m_X6_refusalOfSpeed n w h a u v = some (if m_X6_isId a = 0 then 1 else if m_X6_inside u (-9) 9 = 0 then 2 else if m_X6_inside v (-9) 9 = 0 then 2 else if S' (5 * a.toNatClampNeg) = 0 then 3 else 0) := by
  unfold m_X6_refusalOfSpeed
  rcases id_c a with h1 | ⟨h1, i, hi, rfl⟩
  · rw [if_pos h1, if_pos h1]
  · have h1' : ¬ m_X6_isId (nI i) = 0 := by rw [h1]; decide
    rw [if_neg h1', if_neg h1']
    by_cases h2 : m_X6_inside u (-9) 9 = 0
    · rw [if_pos h2, if_pos h2]
    · rw [if_neg h2, if_neg h2]
      by_cases h3 : m_X6_inside v (-9) 9 = 0
      · rw [if_pos h3, if_pos h3]
      · obtain ⟨F, t, h0, hR⟩ := g.1
        rw [if_neg h3, if_neg h3, g.n0, Option.bind_some, h0.q0, Option.bind_some, h0.r0 hi, Option.bind_some, hR.1 0 i (by decide) hi, nI_clamp (by omega), Nat.add_zero]
        by_cases h4 : S' (5 * i) = 0
        · rw [if_pos h4, if_pos h4]
        · rw [if_neg h4, if_neg h4]
theorem throw0 : m_X6_throwIf n w 0 = some () := by
  rw [m_X6_throwIf, if_neg (by decide), if_neg (by decide), if_neg (by decide)]
end CJ
end
section
/-! THE REFERENCE'S INVARIANT, and its changes -/
section KJ
variable {n b c L i : Nat} {w w' : Wd} {I I' : Nat → Int32} {J J' : Nat → Int64} {A A' : Rw} {S S' : Nat → Int32} {P : Nat → Nat → Int32} {B : Nat → Int32} {r : Int32}
theorem e5' (i : Nat) (k : Int32) {m : Nat} (hk : k = nI m) : (5 : Int32) * nI i + k = nI (5 * i + m) := by rw [hk, e5k]
theorem st_zero : st1 0 0 = 0 ∧ st2 0 0 = 0 := by decide
/-! what the reference refuses -/
end KJ
end
section
/-! ONE INVARIANT OF BOTH, and how a case of the law keeps it -/
def ScC (w : Wd) (a L : Nat) (B : Nat → Int32) : Prop := (∃ wd po fa, w a = some (.inr (2, [.ref (a + 1), .int (nI L), .int wd, .ref (a + 2), .int po, .int fa]))) ∧ (∃ f, w (a + 1) = some (.inl (0, 120, .inl f)) ∧ ∀ i, i < L → f i = B i) ∧ ∃ g, w (a + 2) = some (.inl (0, 3, .inl g))
theorem ScC.frame {w w' : Wd} {a L : Nat} {B : Nat → Int32} (h : ScC w a L B) (hq : ∀ q, a ≤ q → q ≤ a + 2 → w' q = w q) : ScC w' a L B := by
  obtain ⟨⟨x, y, z, h1⟩, ⟨f, h2, h3⟩, g, h4⟩ := h
  exact ⟨⟨x, y, z, by rw [hq _ (by omega) (by omega)]; exact h1⟩, ⟨f, by rw [hq _ (by omega) (by omega)]; exact h2, h3⟩, g, by rw [hq _ (by omega) (by omega)]; exact h4⟩
theorem lg_same (x : Int64) : lg_cmp x x = 0 := by
  unfold lg_cmp
  rw [if_neg (show ¬ x > x from Int64.lt_irrefl), if_pos rfl]
abbrev FrA (w w' : Wd) (h : Nat) : Prop := ∀ q, (q < h ∨ h + 86 < q) → w' q = w q
theorem FrC.a {w w' : Wd} {h : Nat} (q : FrC w w' h) : FrA w w' h := fun p hp => q p (by omega)
section AD
variable {n h c L : Nat} {w : Wd} {S : Nat → Int32} {P : Nat → Nat → Int32} {B : Nat → Int32} {r : Int32} {K : Nat → Nat} {xs : Nat → Int32} {i : Int32}
theorem pos1 : ¬ (1 : Int32) ≤ 0 ∧ ¬ (2 : Int32) ≤ 0 ∧ ¬ (3 : Int32) ≤ 0 := by decide
theorem ne1 : (1 : Int32) ≠ 0 ∧ (2 : Int32) ≠ 0 ∧ (3 : Int32) ≠ 0 ∧ (2 : Int32) ≠ 1 ∧ (3 : Int32) ≠ 1 ∧ (3 : Int32) ≠ 2 := by decide
/-- the place's refusal: what it says when it is fine -/
theorem rfP_c {a x y e : Int32} : ((if m_X6_isId a = 0 then (1 : Int32) else if m_X6_isPosition x y = 0 then 2 else if S (5 * a.toNatClampNeg) = e then 0 else 3) = 1 ∨ (if m_X6_isId a = 0 then (1 : Int32) else if m_X6_isPosition x y = 0 then 2 else if S (5 * a.toNatClampNeg) = e then 0 else 3) = 2 ∨ (if m_X6_isId a = 0 then (1 : Int32) else if m_X6_isPosition x y = 0 then 2 else if S (5 * a.toNatClampNeg) = e then 0 else 3) = 3) ∨ (if m_X6_isId a = 0 then (1 : Int32) else if m_X6_isPosition x y = 0 then 2 else if S (5 * a.toNatClampNeg) = e then 0 else 3) = 0 ∧ ∃ i p q, i < 24 ∧ p < 64 ∧ q < 64 ∧ a = nI i ∧ x = nI p ∧ y = nI q ∧ S (5 * i) = e := by
  rcases id_c a with h1 | ⟨h1, i, hi, rfl⟩
  · left; left
    rw [if_pos h1]
  · rcases pl_c x y with h2 | ⟨h2, p, q, hp, hq, rfl, rfl⟩
    · left; right; left
      rw [if_neg (show ¬ m_X6_isId (nI i) = 0 from fun q => absurd (h1.symm.trans q) (by decide)), if_pos h2]
    · rw [if_neg (show ¬ m_X6_isId (nI i) = 0 from fun q => absurd (h1.symm.trans q) (by decide)), if_neg (show ¬ m_X6_isPosition (nI p) (nI q) = 0 from fun z => absurd (h2.symm.trans z) (by decide)), nI_clamp (by omega)]
      by_cases h3 : S (5 * i) = e
      · right
        exact ⟨if_pos h3, i, p, q, hi, hp, hq, rfl, rfl, rfl, h3⟩
      · left; right; right
        exact if_neg h3
theorem tk_c (a : Int32) : m_X6_inside a 1 50 = 0 ∨ m_X6_inside a 1 50 = 1 ∧ ∃ m, m ≤ 50 ∧ a = nI m := by
  unfold m_X6_inside
  by_cases h1 : a < 1
  · exact Or.inl (if_pos h1)
  · rw [if_neg h1]
    by_cases h2 : 50 < a
    · exact Or.inl (if_pos h2)
    · rw [if_neg h2]
      have h0 : ¬ a < 0 := fun q => h1 (Int32.lt_trans q (by decide))
      obtain ⟨j, hj, e⟩ := nI_of2 (M := 50) (n := 50) rfl h0 (Int32.not_lt.mp h2)
      exact Or.inr ⟨rfl, j, hj, e⟩
end AD
end
