/-! THE REFERENCE'S INVARIANT, and its changes -/
def Mo (w : Wd) (b : Nat) (I : Nat → Int32) (J : Nat → Int64) (A : Rw) (S : Nat → Int32) (P : Nat → Nat → Int32) (c L : Nat) (B : Nat → Int32) (r : Int32) : Prop :=
  MoC w b I J A ∧ Row A S ∧ (I 3 = nI c ∧ c ≤ 4) ∧ (∀ j i, j < c → i < 141 → A 1 (141 * j + i) = P j i) ∧ (I 6 = nI L ∧ L ≤ 120) ∧ (∀ i, i < L → A 3 i = B i) ∧ I 4 = r
def MoI (w : Wd) (b : Nat) (S : Nat → Int32) (P : Nat → Nat → Int32) (c L : Nat) (B : Nat → Int32) (r : Int32) : Prop := ∃ I J A, Mo w b I J A S P c L B r
section KJ
variable {n b c L i : Nat} {w w' : Wd} {I I' : Nat → Int32} {J J' : Nat → Int64} {A A' : Rw} {S S' : Nat → Int32} {P : Nat → Nat → Int32} {B : Nat → Int32} {r : Int32}
theorem Mo.frame (h : Mo w b I J A S P c L B r) (hq : ∀ q, b ≤ q → q ≤ b + 9 → w' q = w q) : Mo w' b I J A S P c L B r := ⟨h.1.frame hq, h.2⟩
theorem MoI.frame (h : MoI w b S P c L B r) (hq : ∀ q, b ≤ q → q ≤ b + 9 → w' q = w q) : MoI w' b S P c L B r := by
  obtain ⟨I, J, A, h⟩ := h
  exact ⟨I, J, A, h.frame hq⟩
/-- other cells of the reference have changed, the kept ones not -/
theorem Mo.to (h : Mo w b I J A S P c L B r) (g : MoC w' b I' J' A') (hr : Row A' S') (hI : ∀ k, k = 3 ∨ k = 4 ∨ k = 6 → I' k = I k) (hA : ∀ j k, j = 1 ∨ j = 3 → A' j k = A j k) : Mo w' b I' J' A' S' P c L B r := by
  obtain ⟨-, -, h3, h4, h5, h6, h7⟩ := h
  exact ⟨g, hr, ⟨by rw [hI 3 (by omega)]; exact h3.1, h3.2⟩, fun j i a b => by rw [hA 1 _ (by omega)]; exact h4 j i a b, ⟨by rw [hI 6 (by omega)]; exact h5.1, h5.2⟩, fun i a => by rw [hA 3 _ (by omega)]; exact h6 i a, by rw [hI 4 (by omega)]; exact h7⟩
theorem Mo.ck (h : Mo w b I J A S P c L B r) : chk 6 w b = some () := h.1.c
theorem MoI.ck (h : MoI w b S P c L B r) : chk 6 w b = some () := by
  obtain ⟨I, J, A, h⟩ := h
  exact h.ck
theorem MoI.thr (h : MoI w b S P c L B r) : m_X7_thrown n w b = some r := by
  obtain ⟨I, J, A, h⟩ := h
  rw [m_X7_thrown, h.1.i4, Option.bind_some, h.2.2.2.2.2.2]
theorem k_ref0 (h : Mo w b I J A S P c L B r) : ∃ w', m_X7_refused n w b 0 = some (0, w') ∧ Mo w' b (setI I 4 0) J A S P c L B 0 ∧ Fr w w' b := by
  obtain ⟨w1, e1, h1, q1⟩ := h.1.p4 0
  obtain ⟨-, h2, h3, h4, h5, h6, h7⟩ := h
  refine ⟨w1, ?_, ⟨h1, h2, ⟨by rw [setI_ne (by decide)]; exact h3.1, h3.2⟩, h4, ⟨by rw [setI_ne (by decide)]; exact h5.1, h5.2⟩, h6, setI_self⟩, q1⟩
  rw [m_X7_refused, e1, Option.bind_some, if_pos (Int32.le_refl _)]
theorem k_refk {k : Int32} (hk : ¬ k ≤ 0) (h : Mo w b I J A S P c L B r) : ∃ w', m_X7_refused n w b k = some (1, w') ∧ Mo w' b (setI I 4 k) J A S P c L B k ∧ Fr w w' b := by
  obtain ⟨w1, e1, h1, q1⟩ := h.1.p4 k
  obtain ⟨-, h2, h3, h4, h5, h6, h7⟩ := h
  refine ⟨w1, ?_, ⟨h1, h2, ⟨by rw [setI_ne (by decide)]; exact h3.1, h3.2⟩, h4, ⟨by rw [setI_ne (by decide)]; exact h5.1, h5.2⟩, h6, setI_self⟩, q1⟩
  rw [m_X7_refused, e1, Option.bind_some, if_neg hk]
theorem k_saves (hn : 600 ≤ n) (h : Mo w b I J A S P c L B r) : ∃ w' I' A', m_X7_saves n w b = some w' ∧ Mo w' b I' J A' S (pshP c S P) (min (c + 1) 4) L B r ∧ (∀ k, k ≠ 3 → I' k = I k) ∧ (∀ j i, j ≠ 1 → A' j i = A j i) ∧ Fr w w' b := by
  obtain ⟨w1, e1, ⟨I1, A1, h1, i3, iK, aK, hp⟩, q1⟩ := m_saves hn h.1 h.2.2.1.1 h.2.2.1.2
  obtain ⟨-, h2, h3, h4, h5, h6, h7⟩ := h
  refine ⟨w1, I1, A1, e1, ⟨h1, fun i hi => (aK 0 i (by decide)).trans (h2 i hi), ⟨i3, Nat.min_le_right _ _⟩, fun j i hj hi => ?_, ⟨by rw [iK 6 (by decide)]; exact h5.1, h5.2⟩, fun i hi => (aK 3 i (by decide)).trans (h6 i hi), by rw [iK 4 (by decide)]; exact h7⟩, iK, aK, q1⟩
  rw [hp j i hj hi]
  unfold pshP
  by_cases e : j + 1 = min (c + 1) 4
  · rw [if_pos e, if_pos e]
    exact h2 i hi
  · rw [if_neg e, if_neg e]
    have h3' := h3.2
    exact h4 _ i (by split <;> omega) hi
theorem e5' (i : Nat) (k : Int32) {m : Nat} (hk : k = nI m) : (5 : Int32) * nI i + k = nI (5 * i + m) := by rw [hk, e5k]
theorem k_puts {x y : Int32} (h : MoC w b I J A) (hr : Row A S) (hw : WF S) (hi : i < 24) : ∃ w' A', m_X7_puts n w b (nI i) x y = some w' ∧ MoC w' b I J A' ∧ Row A' (putS S i x y) ∧ (∀ j k, j ≠ 0 → A' j k = A j k) ∧ Fr w w' b := by
  have s3 : (5 : Int32) * nI i + 3 = nI (5 * i + 3) := e5k i 3
  have s4 : (5 : Int32) * nI i + 4 = nI (5 * i + 4) := e5k i 4
  have s1 : (5 : Int32) * nI i + 1 = nI (5 * i + 1) := e5k i 1
  have s2 : (5 : Int32) * nI i + 2 = nI (5 * i + 2) := e5k i 2
  rw [m_X7_puts, h.g0, Option.bind_some, s1, s2, s3, s4, e5, h.r0 (by omega), Option.bind_some, hr _ (by omega)]
  by_cases hz : S (5 * i) = 0
  · obtain ⟨-, -, -, -, -, hz5⟩ := hw.1 i hi
    obtain ⟨z1, z2, z3, z4⟩ := hz5 hz
    obtain ⟨w1, e1, h1, q1⟩ := h.w0 0 (k := 5 * i + 3) (by omega)
    obtain ⟨w2, e2, h2, q2⟩ := h1.w0 0 (k := 5 * i + 4) (by omega)
    obtain ⟨w3, e3, h3, q3⟩ := h2.w0 1 (k := 5 * i) (by omega)
    obtain ⟨w4, e4, h4, q4⟩ := h3.w0 x (k := 5 * i + 1) (by omega)
    obtain ⟨w5, e5, h5, q5⟩ := h4.w0 y (k := 5 * i + 2) (by omega)
    refine ⟨w5, _, ?_, h5, fun k hk => ?_, fun j k hj => by rw [setF_row hj, setF_row hj, setF_row hj, setF_row hj, setF_row hj], fun q hq => (q5 q hq).trans ((q4 q hq).trans ((q3 q hq).trans ((q2 q hq).trans (q1 q hq))))⟩
    · rw [if_pos hz, Option.bind_some, e1, Option.bind_some, h1.g0, Option.bind_some, e2, Option.bind_some, h2.g0, Option.bind_some, e3, Option.bind_some, h3.g0, Option.bind_some, e4, Option.bind_some, h4.g0, Option.bind_some, e5, Option.bind_some]
    · have hk0 := hr k hk
      simp only [setF_at, putS, upd, true_and]
      by_cases c3 : k = 5 * i + 3
      · subst c3
        rw [if_neg (by omega), if_neg (by omega), if_neg (by omega), if_neg (by omega), if_pos rfl, if_neg (by omega), if_neg (by omega), if_neg (by omega), z3]
      · by_cases c4 : k = 5 * i + 4
        · subst c4
          rw [if_neg (by omega), if_neg (by omega), if_neg (by omega), if_pos rfl, if_neg (by omega), if_neg (by omega), if_neg (by omega), z4]
        · rw [if_neg c4, if_neg c3, hk0]
  · obtain ⟨w3, e3, h3, q3⟩ := h.w0 1 (k := 5 * i) (by omega)
    obtain ⟨w4, e4, h4, q4⟩ := h3.w0 x (k := 5 * i + 1) (by omega)
    obtain ⟨w5, e5, h5, q5⟩ := h4.w0 y (k := 5 * i + 2) (by omega)
    refine ⟨w5, _, ?_, h5, fun k hk => ?_, fun j k hj => by rw [setF_row hj, setF_row hj, setF_row hj], fun q hq => (q5 q hq).trans ((q4 q hq).trans (q3 q hq))⟩
    · rw [if_neg hz, Option.bind_some, e3, Option.bind_some, h3.g0, Option.bind_some, e4, Option.bind_some, h4.g0, Option.bind_some, e5, Option.bind_some]
    · have hk0 := hr k hk
      simp only [setF_at, putS, upd, true_and]
      rw [hk0]
theorem k_adds {x y : Nat} (hn : 200 ≤ n) (h : MoC w b I J A) (hr : Row A S) (hw : WF S) (hi : i < 24) (hx : x < 64) (hy : y < 64) : ∃ w' A', m_X7_adds n w b (nI i) (nI x) (nI y) = some (nI (touK S (putS S i (nI x) (nI y)) 5), w') ∧ MoC w' b I J A' ∧ Row A' (putS S i (nI x) (nI y)) ∧ (∀ j k, 1 ≤ j ∧ j < 4 ∨ j = 8 → A' j k = A j k) ∧ Fr w w' b := by
  obtain ⟨w1, e1, ⟨A1, h1, t1, a1⟩, q1⟩ := m_before hn h hr hw
  obtain ⟨w2, A2, e2, h2, r2, a2, q2⟩ := k_puts (n := n) (x := nI x) (y := nI y) h1 (fun k hk => (a1 0 k (by omega)).trans (hr k hk)) hw hi
  obtain ⟨w3, e3, ⟨A3, h3, a3⟩, q3⟩ := m_touched hn h2 r2 hw (hw.put hi hx hy) fun l hl => ⟨(a2 7 _ (by decide)).trans (t1 l hl).1, fun i hi => (a2 6 _ (by decide)).trans ((t1 l hl).2 i hi)⟩
  refine ⟨w3, A3, ?_, h3, fun k hk => (a3 0 k (by omega)).trans (r2 k hk), fun j k hj => (a3 j k (by omega)).trans ((a2 j k (by omega)).trans (a1 j k (by omega))), fun q hq => (q3 q hq).trans ((q2 q hq).trans (q1 q hq))⟩
  rw [m_X7_adds, h.c, Option.bind_some, e1, Option.bind_some, h1.c, Option.bind_some, e2, Option.bind_some, h2.c, Option.bind_some, e3, Option.bind_some]
theorem k_removes (hn : 200 ≤ n) (h : MoC w b I J A) (hr : Row A S) (hw : WF S) (hi : i < 24) : ∃ w' A', m_X7_removes n w b (nI i) = some (nI (touK S (clrS S i) 5), w') ∧ MoC w' b I J A' ∧ Row A' (clrS S i) ∧ (∀ j k, 1 ≤ j ∧ j < 4 ∨ j = 8 → A' j k = A j k) ∧ Fr w w' b := by
  obtain ⟨w1, e1, ⟨A1, h1, t1, a1⟩, q1⟩ := m_before hn h hr hw
  have r1 : Row A1 S := fun k hk => (a1 0 k (by omega)).trans (hr k hk)
  obtain ⟨z, ez, A2, w2, rfl, h2, r2, a2, q2⟩ := lp (σ := Wd) (R := Int32 × Wd) (fun t k v => m_X7_removes_p6 n t v b (nI i) (nI k)) (fun k v => ∃ A2, MoC v b I J A2 ∧ (∀ m, m < 141 → A2 0 m = if 5 * i ≤ m ∧ m < 5 * i + k then 0 else S m) ∧ (∀ j m, j ≠ 0 → A2 j m = A1 j m) ∧ Fr w1 v b) (fun z => ∃ A2 w2, z = (nI (touK S (clrS S i) 5), w2) ∧ MoC w2 b I J A2 ∧ Row A2 (clrS S i) ∧ (∀ j k, 1 ≤ j ∧ j < 4 ∨ j = 8 → A2 j k = A1 j k) ∧ Fr w1 w2 b) 5 (by
    rintro t k v hk ⟨A2, h2, r2, a2, q2⟩
    left
    obtain ⟨w3, e3, h3, q3⟩ := h2.w0 0 (k := 5 * i + k) (by omega)
    refine ⟨w3, ?_, _, h3, fun m hm => ?_, fun j m hj => (setF_row hj).trans (a2 j m hj), fun q hq => (q3 q hq).trans (q2 q hq)⟩
    · show m_X7_removes_p6 n (t + 1) v b (nI i) (nI k) = _
      rw [m_X7_removes_p6, if_neg (show ¬ (5 : Int32) ≤ nI k from nI_ge hk (by decide)), h2.g0, Option.bind_some, e5k, e3, Option.bind_some, nI_1]
    · by_cases e : m = 5 * i + k
      · subst e
        rw [setF_self, if_pos (by omega)]
      · rw [setF_col e, r2 m hm]
        by_cases d : 5 * i ≤ m ∧ m < 5 * i + k
        · rw [if_pos d, if_pos (by omega)]
        · rw [if_neg d, if_neg (by omega)]) (by
    rintro t v ⟨A2, h2, r2, a2, q2⟩
    have r3 : Row A2 (clrS S i) := fun m hm => by
      rw [r2 m hm]
      unfold clrS upd
      by_cases d : 5 * i ≤ m ∧ m < 5 * i + 5
      · rw [if_pos d]
        obtain ⟨j, hj⟩ : ∃ j, m = 5 * i + j := ⟨m - 5 * i, by omega⟩
        subst hj
        rcases i5 (show j < 5 by omega) with rfl | rfl | rfl | rfl | rfl <;> simp
      · rw [if_neg d, if_neg (by omega), if_neg (by omega), if_neg (by omega), if_neg (by omega), if_neg (by omega)]
    obtain ⟨w3, e3, ⟨A3, h3, a3⟩, q3⟩ := m_touched hn h2 r3 hw (hw.clr hi) fun l hl => ⟨(a2 7 _ (by decide)).trans (t1 l hl).1, fun i hi => (a2 6 _ (by decide)).trans ((t1 l hl).2 i hi)⟩
    refine ⟨_, ?_, A3, w3, rfl, h3, fun m hm => (a3 0 m (by omega)).trans (r3 m hm), fun j k hj => (a3 j k (by omega)).trans (a2 j k (by omega)), fun q hq => (q3 q hq).trans (q2 q hq)⟩
    show m_X7_removes_p6 n (t + 1) v b (nI i) (nI 5) = _
    rw [m_X7_removes_p6, if_pos (by decide), m_X7_removes_p28, h2.c, Option.bind_some, e3, Option.bind_some]) 5 0 n w1 rfl (by omega) ⟨A1, h1, fun m hm => by rw [if_neg (by omega)]; exact r1 m hm, fun _ _ _ => rfl, fun _ _ => rfl⟩
  refine ⟨w2, A2, ?_, h2, r2, fun j k hj => (a2 j k hj).trans (a1 j k (by omega)), fun q hq => (q2 q hq).trans (q1 q hq)⟩
  rw [m_X7_removes, h.c, Option.bind_some, e1, Option.bind_some]
  exact ez
theorem size_ab (x : Int32) : m_X7_size x = abI x := by
  unfold m_X7_size abI
  by_cases h : 0 ≤ x
  · rw [if_pos h, if_pos h]
  · rw [if_neg h, if_neg h, Int32.zero_sub]
theorem k_speeds {u v : Int32} (h : MoC w b I J A) (hr : Row A S) (hi : i < 24) : ∃ w' A', m_X7_speeds n w b (nI i) u v = some (10 * abI (S (5 * i + 3)) + abI (S (5 * i + 4)), w') ∧ MoC w' b I J A' ∧ Row A' (spdS S i u v) ∧ (∀ j k, 1 ≤ j ∧ j < 4 ∨ j = 8 → A' j k = A j k) ∧ Fr w w' b := by
  have s3 : (5 : Int32) * nI i + 3 = nI (5 * i + 3) := e5k i 3
  have s4 : (5 : Int32) * nI i + 4 = nI (5 * i + 4) := e5k i 4
  obtain ⟨w1, e1, h1, q1⟩ := h.w0 u (k := 5 * i + 3) (by omega)
  obtain ⟨w2, e2, h2, q2⟩ := h1.w0 v (k := 5 * i + 4) (by omega)
  refine ⟨w2, _, ?_, h2, fun k hk => ?_, fun j k hj => by rw [setF_row (by omega), setF_row (by omega)], fun q hq => (q2 q hq).trans (q1 q hq)⟩
  · rw [m_X7_speeds, s3, s4, h.g0, Option.bind_some, h.r0 (by omega), Option.bind_some, Option.bind_some, h.r0 (by omega), Option.bind_some, Option.bind_some, e1, Option.bind_some, h1.g0, Option.bind_some, e2, Option.bind_some, size_ab, size_ab, hr _ (by omega), hr _ (by omega)]
  · simp only [setF_at, spdS, upd, true_and]
    rw [hr k hk]
theorem k_steps {q : Nat} (h : MoC w b I J A) (hq : q + 2 < 141) (hx : N64 (A 0 q)) (hu : sp (A 0 (q + 2))) : ∃ w' A', m_X7_steps n w b (nI q) = some w' ∧ MoC w' b I J A' ∧ (∀ k, A' 0 k = upd (upd (A 0) q (st1 (A 0 q) (A 0 (q + 2)))) (q + 2) (st2 (A 0 q) (A 0 (q + 2))) k) ∧ (∀ j k, j ≠ 0 → A' j k = A j k) ∧ Fr w w' b := by
  have s2 : nI q + 2 = nI (q + 2) := nI_add q 2
  obtain ⟨a1, a2, a3, -, -⟩ := st_ok hx hu
  obtain ⟨w1, e1, h1, q1⟩ := h.w0 (st1 (A 0 q) (A 0 (q + 2))) (k := q) (by omega)
  obtain ⟨w2, e2, h2, q2⟩ := h1.w0 (st2 (A 0 q) (A 0 (q + 2))) (k := q + 2) (by omega)
  have x2 : setF A 0 q (st1 (A 0 q) (A 0 (q + 2))) 0 (q + 2) = A 0 (q + 2) := setF_col (by omega)
  rw [m_X7_steps, s2, h.g0, Option.bind_some, h.r0 (by omega), Option.bind_some, Option.bind_some, h.r0 (by omega), Option.bind_some]
  have R2 : ∀ k, setF (setF A 0 q (st1 (A 0 q) (A 0 (q + 2)))) 0 (q + 2) (st2 (A 0 q) (A 0 (q + 2))) 0 k = upd (upd (A 0) q (st1 (A 0 q) (A 0 (q + 2)))) (q + 2) (st2 (A 0 q) (A 0 (q + 2))) k := fun k => by
    simp only [setF_at, upd, true_and]
  by_cases c1 : 0 ≤ A 0 q + A 0 (q + 2)
  · rw [if_pos c1]
    by_cases c2 : A 0 q + A 0 (q + 2) ≤ 63
    · obtain ⟨b1, b2⟩ := a1 c1 c2
      rw [if_pos c2, Option.bind_some, ← b1, e1, Option.bind_some]
      refine ⟨w1, _, rfl, h1, fun k => ?_, fun j k hj => setF_row hj, q1⟩
      rw [b2]
      simp only [setF_at, upd, true_and]
      by_cases e : k = q + 2
      · subst e
        rw [if_pos rfl, if_neg (by omega)]
      · rw [if_neg e]
    · obtain ⟨b1, b2⟩ := a2 c1 c2
      rw [if_neg c2, Option.bind_some, ← b1, e1, Option.bind_some, h1.g0, Option.bind_some, Option.bind_some, h1.r0 (by omega), Option.bind_some, x2, ← b2, e2, Option.bind_some]
      exact ⟨w2, _, rfl, h2, R2, fun j k hj => by rw [setF_row hj, setF_row hj], fun p hp => (q2 p hp).trans (q1 p hp)⟩
  · obtain ⟨b1, b2⟩ := a3 c1
    rw [if_neg c1, Option.bind_some, ← b1, e1, Option.bind_some, h1.g0, Option.bind_some, Option.bind_some, h1.r0 (by omega), Option.bind_some, x2, ← b2, e2, Option.bind_some]
    exact ⟨w2, _, rfl, h2, R2, fun j k hj => by rw [setF_row hj, setF_row hj], fun p hp => (q2 p hp).trans (q1 p hp)⟩
theorem st_zero : st1 0 0 = 0 ∧ st2 0 0 = 0 := by decide
theorem k_pass1 (h : MoC w b I J A) (hn : 200 ≤ n) (hr : Row A S) (hw : WF S) {s : Int32} {m u : Nat} {k4 : Wd → Nat → Int32 → Int32 → Int32 → Option (Int32 × Wd)} : ∃ w' A', (m_X7_laysBefore n w b).bind (fun z2 => m_X7_passes_p16 n k4 n z2 b (nI m) s (nI u) 0) = k4 w' b (nI m) (s + nI (touK S (stepS S) 5)) (nI (u + 1)) ∧ MoC w' b I J A' ∧ Row A' (stepS S) ∧ (∀ j k, 1 ≤ j ∧ j < 4 ∨ j = 8 → A' j k = A j k) ∧ Fr w w' b := by
  obtain ⟨w1, e1, ⟨A1, h1, t1, a1⟩, q1⟩ := m_before hn h hr hw
  have r1 : Row A1 S := fun k hk => (a1 0 k (by omega)).trans (hr k hk)
  rw [e1, Option.bind_some]
  obtain ⟨w2, e2, A2, h2, r2, a2, q2⟩ := lpk (σ := Wd) (τ := Wd) (fun t k v => m_X7_passes_p16 n k4 t v b (nI m) s (nI u) (nI k)) (fun w2 => k4 w2 b (nI m) (s + nI (touK S (stepS S) 5)) (nI (u + 1))) (fun k v => ∃ A2, MoC v b I J A2 ∧ Row A2 (stepK S k) ∧ (∀ j m, j ≠ 0 → A2 j m = A1 j m) ∧ Fr w1 v b) (fun w2 => ∃ A2, MoC w2 b I J A2 ∧ Row A2 (stepS S) ∧ (∀ j k, 1 ≤ j ∧ j < 4 ∨ j = 8 → A2 j k = A1 j k) ∧ Fr w1 w2 b) 24 (by
    rintro t k v hk ⟨A2, h2, r2, a2, q2⟩
    left
    have hwk := hw.oneK (k := k) (by omega)
    obtain ⟨y0, y1, y2, y3, y4, y5⟩ := hwk.1 k hk
    have s1 : (5 : Int32) * nI k + 1 = nI (5 * k + 1) := e5k k 1
    have s2 : (5 : Int32) * nI k + 2 = nI (5 * k + 2) := e5k k 2
    have o1 : A2 0 (5 * k + 1) = stepK S k (5 * k + 1) := r2 _ (by omega)
    have o2 : A2 0 (5 * k + 2) = stepK S k (5 * k + 2) := r2 _ (by omega)
    have o3 : A2 0 (5 * k + 1 + 2) = stepK S k (5 * k + 3) := r2 _ (by omega)
    have o4 : A2 0 (5 * k + 2 + 2) = stepK S k (5 * k + 4) := r2 _ (by omega)
    show ∃ s', m_X7_passes_p16 n k4 (t + 1) v b (nI m) s (nI u) (nI k) = _ ∧ _
    rw [m_X7_passes_p16, if_neg (show ¬ (24 : Int32) ≤ nI k from nI_ge hk (by decide)), h2.c, Option.bind_some, m_there h2 r2 hwk hk, Option.bind_some]
    by_cases hz : stepK S k (5 * k) = 0
    · obtain ⟨z1, z2, z3, z4⟩ := y5 hz
      refine ⟨v, by rw [if_pos hz, nI_1], A2, h2, fun x hx => ?_, a2, q2⟩
      rw [r2 x hx]
      show _ = stepO (stepK S k) k x
      unfold stepO
      rw [z1, z2, z3, z4, st_zero.1, st_zero.2]
      unfold upd
      by_cases c4 : x = 5 * k + 4
      · rw [if_pos c4, c4, z4]
      · rw [if_neg c4]
        by_cases c3 : x = 5 * k + 3
        · rw [if_pos c3, c3, z3]
        · rw [if_neg c3]
          by_cases c2 : x = 5 * k + 2
          · rw [if_pos c2, c2, z2]
          · rw [if_neg c2]
            by_cases c1 : x = 5 * k + 1
            · rw [if_pos c1, c1, z1]
            · rw [if_neg c1]
    · obtain ⟨w3, A3, e3, h3, r3, a3, q3⟩ := k_steps (n := n) (q := 5 * k + 1) h2 (by omega) (by rw [o1]; exact y1) (by rw [o3]; exact y3)
      have p2 : A3 0 (5 * k + 2) = stepK S k (5 * k + 2) := by rw [r3, pk_un (by omega), pk_un (by omega), o2]
      have p4 : A3 0 (5 * k + 2 + 2) = stepK S k (5 * k + 4) := by rw [r3, pk_un (by omega), pk_un (by omega), o4]
      obtain ⟨w4, A4, e4, h4, r4, a4, q4⟩ := k_steps (n := n) (q := 5 * k + 2) h3 (by omega) (by rw [p2]; exact y2) (by rw [p4]; exact y4)
      refine ⟨w4, ?_, A4, h4, fun x hx => ?_, fun j x hj => (a4 j x hj).trans ((a3 j x hj).trans (a2 j x hj)), fun x hx => (q4 x hx).trans ((q3 x hx).trans (q2 x hx))⟩
      · rw [if_neg hz, Option.bind_some, s1, e3, Option.bind_some, h3.c, Option.bind_some, s2, e4, Option.bind_some, nI_1]
      · show _ = stepO (stepK S k) k x
        rw [r4, p2, p4]
        unfold stepO upd
        by_cases c4 : x = 5 * k + 4
        · rw [if_pos (show x = 5 * k + 2 + 2 from c4), if_pos c4]
        · rw [if_neg (show ¬ x = 5 * k + 2 + 2 from c4), if_neg c4]
          by_cases c2 : x = 5 * k + 2
          · rw [if_pos c2, if_neg (by omega), if_pos c2]
          · rw [if_neg c2, r3, o1, o3]
            unfold upd
            by_cases c3 : x = 5 * k + 3
            · rw [if_pos (show x = 5 * k + 1 + 2 from c3), if_pos c3]
            · rw [if_neg (show ¬ x = 5 * k + 1 + 2 from c3), if_neg c3, if_neg c2]
              by_cases c1 : x = 5 * k + 1
              · rw [if_pos c1, if_pos c1]
              · rw [if_neg c1, if_neg c1, r2 x hx]) (by
    rintro t v ⟨A2, h2, r2, a2, q2⟩
    obtain ⟨w3, e3, h3, q3⟩ := h2.w0 (A2 0 140 + 1) (k := 140) (by decide)
    have r3 : Row (setF A2 0 140 (A2 0 140 + 1)) (stepS S) := fun x hx => by
      unfold stepS
      by_cases e : x = 140
      · subst e
        rw [setF_self, pk_us, r2 140 (by decide)]
      · rw [setF_col e, pk_un e, r2 x hx]
    obtain ⟨w4, e4, ⟨A4, h4, a4⟩, q4⟩ := m_touched hn h3 r3 hw hw.oneS fun l hl => ⟨(setF_row (by decide)).trans ((a2 7 _ (by decide)).trans (t1 l hl).1), fun i hi => (setF_row (by decide)).trans ((a2 6 _ (by decide)).trans ((t1 l hl).2 i hi))⟩
    refine ⟨w4, ?_, A4, h4, fun x hx => (a4 0 x (by omega)).trans (r3 x hx), fun j k hj => (a4 j k (by omega)).trans ((setF_row (by omega)).trans (a2 j k (by omega))), fun x hx => (q4 x hx).trans ((q3 x hx).trans (q2 x hx))⟩
    show m_X7_passes_p16 n k4 (t + 1) v b (nI m) s (nI u) (nI 24) = _
    have e3' : asI 0 v (b + 1) 140 (A2 0 140 + 1) = some w3 := e3
    have r0' : agI 0 v (b + 1) 140 = some (A2 0 140) := h2.r0 (k := 140) (by decide)
    rw [m_X7_passes_p16, if_pos (by decide), m_X7_passes_p58, h2.g0, Option.bind_some, r0', Option.bind_some, e3', Option.bind_some, h3.c, Option.bind_some, e4, Option.bind_some, nI_1]) 24 0 n w1 rfl (by omega) ⟨A1, h1, r1, fun _ _ _ => rfl, fun _ _ => rfl⟩
  exact ⟨w2, A2, e2, h2, r2, fun j k hj => (a2 j k hj).trans (a1 j k (by omega)), fun q hq => (q2 q hq).trans (q1 q hq)⟩
theorem k_passes {m : Nat} (hn : 200 ≤ n) (h : MoC w b I J A) (hr : Row A S) (hw : WF S) (hm : m ≤ 50) : ∃ w' A', m_X7_passes n w b (nI m) = some (nI (pasT S m), w') ∧ MoC w' b I J A' ∧ Row A' (stepN S m) ∧ (∀ j k, 1 ≤ j ∧ j < 4 ∨ j = 8 → A' j k = A j k) ∧ Fr w w' b := by
  unfold m_X7_passes
  obtain ⟨z, e, w2, A2, rfl, h2⟩ := lp (σ := Wd) (R := Int32 × Wd) (fun t k v => m_X7_passes_p4 n t v b (nI m) (nI (pasT S k)) (nI k)) (fun k v => ∃ A2, MoC v b I J A2 ∧ Row A2 (stepN S k) ∧ (∀ j x, 1 ≤ j ∧ j < 4 ∨ j = 8 → A2 j x = A j x) ∧ Fr w v b) (fun z => ∃ w2 A2, z = (nI (pasT S m), w2) ∧ MoC w2 b I J A2 ∧ Row A2 (stepN S m) ∧ (∀ j k, 1 ≤ j ∧ j < 4 ∨ j = 8 → A2 j k = A j k) ∧ Fr w w2 b) m (by
    rintro t k v hk ⟨A2, h2, r2, a2, q2⟩
    left
    obtain ⟨w3, A3, e3, h3, r3, a3, q3⟩ := k_pass1 (n := n) (s := nI (pasT S k)) (m := m) (u := k) (k4 := fun w b0 b1 b2 b3 => m_X7_passes_p4 n t w b0 b1 b2 b3) h2 hn r2 (hw.oneN k)
    refine ⟨w3, ?_, A3, h3, r3, fun j x hj => (a3 j x hj).trans (a2 j x hj), fun x hx => (q3 x hx).trans (q2 x hx)⟩
    show m_X7_passes_p4 n (t + 1) v b (nI m) (nI (pasT S k)) (nI k) = _
    rw [m_X7_passes_p4, if_neg (nI_ge hk (by omega)), h2.c, Option.bind_some, e3, nI_add]
    rfl) (by
    rintro t v ⟨A2, h2⟩
    refine ⟨(nI (pasT S m), v), ?_, v, A2, rfl, h2⟩
    show m_X7_passes_p4 n (t + 1) v b (nI m) (nI (pasT S m)) (nI m) = _
    rw [m_X7_passes_p4, if_pos (Int32.le_refl _)]) m 0 n w (by omega) (by omega) ⟨A, h, hr, fun _ _ _ => rfl, fun _ _ => rfl⟩
  exact ⟨w2, A2, e, h2⟩
/-! what the reference refuses -/
theorem k_badA {a x y : Int32} (h : MoC w b I J A) (hr : Row A S) (hw : WF S) : m_X7_badAdd n w b a x y = some (if m_X6_isId a = 0 then 1 else if m_X6_isPosition x y = 0 then 2 else if S (5 * a.toNatClampNeg) = 0 then 0 else 3) := by
  unfold m_X7_badAdd
  rcases id_c a with h1 | ⟨h1, i, hi, rfl⟩
  · rw [if_pos (show m_X7_isId a = 0 from h1), if_pos h1]
  · rw [if_neg (show ¬ m_X7_isId (nI i) = 0 from fun q => absurd (h1.symm.trans q) (by decide)), if_neg (show ¬ m_X6_isId (nI i) = 0 from fun q => absurd (h1.symm.trans q) (by decide))]
    by_cases h2 : m_X6_isPosition x y = 0
    · rw [if_pos (show m_X7_isPlace x y = 0 from h2), if_pos h2]
    · rw [if_neg (show ¬ m_X7_isPlace x y = 0 from h2), if_neg h2, h.c, Option.bind_some, m_there h hr hw hi, Option.bind_some, nI_clamp (by omega)]
      by_cases h3 : S (5 * i) = 0
      · rw [if_pos h3, if_pos h3]
      · rw [if_neg h3, if_neg h3]
theorem k_badM {a x y : Int32} (h : MoC w b I J A) (hr : Row A S) (hw : WF S) : m_X7_badMove n w b a x y = some (if m_X6_isId a = 0 then 1 else if m_X6_isPosition x y = 0 then 2 else if S (5 * a.toNatClampNeg) = 1 then 0 else 3) := by
  unfold m_X7_badMove
  rcases id_c a with h1 | ⟨h1, i, hi, rfl⟩
  · rw [if_pos (show m_X7_isId a = 0 from h1), if_pos h1]
  · rw [if_neg (show ¬ m_X7_isId (nI i) = 0 from fun q => absurd (h1.symm.trans q) (by decide)), if_neg (show ¬ m_X6_isId (nI i) = 0 from fun q => absurd (h1.symm.trans q) (by decide))]
    by_cases h2 : m_X6_isPosition x y = 0
    · rw [if_pos (show m_X7_isPlace x y = 0 from h2), if_pos h2]
    · rw [if_neg (show ¬ m_X7_isPlace x y = 0 from h2), if_neg h2, h.c, Option.bind_some, m_there h hr hw hi, Option.bind_some, nI_clamp (by omega)]
      rcases (hw.1 i hi).1 with h3 | h3
      · rw [if_pos h3, if_neg (by rw [h3]; decide)]
      · rw [if_neg (by rw [h3]; decide), if_pos h3]
theorem k_badR {a : Int32} (h : MoC w b I J A) (hr : Row A S) (hw : WF S) : m_X7_badRemove n w b a = some (if m_X6_isId a = 0 then 1 else if S (5 * a.toNatClampNeg) = 0 then 2 else 0) := by
  unfold m_X7_badRemove
  rcases id_c a with h1 | ⟨h1, i, hi, rfl⟩
  · rw [if_pos (show m_X7_isId a = 0 from h1), if_pos h1]
  · rw [if_neg (show ¬ m_X7_isId (nI i) = 0 from fun q => absurd (h1.symm.trans q) (by decide)), if_neg (show ¬ m_X6_isId (nI i) = 0 from fun q => absurd (h1.symm.trans q) (by decide)), h.c, Option.bind_some, m_there h hr hw hi, Option.bind_some, nI_clamp (by omega)]
    by_cases h3 : S (5 * i) = 0
    · rw [if_pos h3, if_pos h3]
    · rw [if_neg h3, if_neg h3]
theorem k_badS {a u v : Int32} (h : MoC w b I J A) (hr : Row A S) (hw : WF S) : m_X7_badSpeed n w b a u v = some (if m_X6_isId a = 0 then 1 else if m_X6_inside u (-9) 9 = 0 then 2 else if m_X6_inside v (-9) 9 = 0 then 2 else if S (5 * a.toNatClampNeg) = 0 then 3 else 0) := by
  unfold m_X7_badSpeed
  rcases id_c a with h1 | ⟨h1, i, hi, rfl⟩
  · rw [if_pos (show m_X7_isId a = 0 from h1), if_pos h1]
  · rw [if_neg (show ¬ m_X7_isId (nI i) = 0 from fun q => absurd (h1.symm.trans q) (by decide)), if_neg (show ¬ m_X6_isId (nI i) = 0 from fun q => absurd (h1.symm.trans q) (by decide))]
    by_cases h2 : m_X6_inside u (-9) 9 = 0
    · rw [if_pos (show m_X7_in u (-9) 9 = 0 from h2), if_pos h2]
    · rw [if_neg (show ¬ m_X7_in u (-9) 9 = 0 from h2), if_neg h2]
      by_cases h4 : m_X6_inside v (-9) 9 = 0
      · rw [if_pos (show m_X7_in v (-9) 9 = 0 from h4), if_pos h4]
      · rw [if_neg (show ¬ m_X7_in v (-9) 9 = 0 from h4), if_neg h4, h.c, Option.bind_some, m_there h hr hw hi, Option.bind_some, nI_clamp (by omega)]
        by_cases h3 : S (5 * i) = 0
        · rw [if_pos h3, if_pos h3]
        · rw [if_neg h3, if_neg h3]
end KJ
