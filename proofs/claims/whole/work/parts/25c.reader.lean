/-! SCRIPTS: the reference's reader -/
theorem ins_one (x v : Int32) : (m_X6_inside x v v ≠ 0) ↔ x = v := by
  unfold m_X6_inside
  by_cases h1 : x < v
  · rw [if_pos h1]
    exact ⟨fun q => absurd rfl q, fun q => by rw [q] at h1; exact absurd h1 Int32.lt_irrefl⟩
  · rw [if_neg h1]
    by_cases h2 : v < x
    · rw [if_pos h2]
      exact ⟨fun q => absurd rfl q, fun q => by rw [q] at h2; exact absurd h2 Int32.lt_irrefl⟩
    · rw [if_neg h2]
      exact ⟨fun _ => Int32.le_antisymm (Int32.not_lt.mp h2) (Int32.not_lt.mp h1), fun _ => by decide⟩
theorem ins_fun (v : Int32) : (fun x => decide (m_X6_inside x v v ≠ 0)) = fun x => decide (x = v) := by
  funext x
  by_cases h : x = v
  · rw [decide_eq_true h, decide_eq_true ((ins_one x v).mpr h)]
  · rw [decide_eq_false h, decide_eq_false (fun q => h ((ins_one x v).mp q))]
def Rs (w : Wd) (b : Nat) (I : Nat → Int32) (J : Nat → Int64) (A : Rw) (v : Wd) (p : Nat) (wd : Int32) (N : Nat → Int32) : Prop := ∃ I' A', MoC v b I' J A' ∧ I' 16 = nI p ∧ I' 17 = wd ∧ (∀ k, k ≠ 16 → k ≠ 17 → I' k = I k) ∧ (∀ j k, j ≠ 8 → A' j k = A j k) ∧ (∀ i, i < 3 → A' 8 i = N i) ∧ Fr w v b
section RR
variable {n b L p : Nat} {w v : Wd} {I : Nat → Int32} {J : Nat → Int64} {A : Rw} {B : Nat → Int32} {wd : Int32} {N : Nat → Int32}
theorem Rs.c (H : Rs w b I J A v p wd N) : chk 6 v b = some () := by
  obtain ⟨I', A', m, -⟩ := H
  exact m.c
theorem Rs.i16 (H : Rs w b I J A v p wd N) : gfI 6 16 v b = some (nI p) := by
  obtain ⟨I', A', m, h, -⟩ := H
  rw [m.i16, h]
theorem Rs.i17 (H : Rs w b I J A v p wd N) : gfI 6 17 v b = some wd := by
  obtain ⟨I', A', m, -, h, -⟩ := H
  rw [m.i17, h]
theorem Rs.i6 (H : Rs w b I J A v p wd N) (hL : I 6 = nI L) : gfI 6 6 v b = some (nI L) := by
  obtain ⟨I', A', m, -, -, h, -⟩ := H
  rw [m.i6, h 6 (by decide) (by decide), hL]
theorem Rs.g5 (H : Rs w b I J A v p wd N) : gfR 6 5 v b = some (b + 4) := by
  obtain ⟨I', A', m, -⟩ := H
  exact m.g5
theorem Rs.g18 (H : Rs w b I J A v p wd N) : gfR 6 18 v b = some (b + 9) := by
  obtain ⟨I', A', m, -⟩ := H
  exact m.g18
theorem Rs.by (H : Rs w b I J A v p wd N) {k : Nat} (hk : k < L) (h120 : L ≤ 120) (hB : ∀ k, k < L → A 3 k = B k) : agI 0 v (b + 4) (nI k) = some (B k) := by
  obtain ⟨I', A', m, -, -, -, h, -⟩ := H
  rw [m.r5 (by omega), h 3 k (by decide), hB k hk]
theorem Rs.nr (H : Rs w b I J A v p wd N) {k : Nat} (hk : k < 3) : agI 0 v (b + 9) (nI k) = some (N k) := by
  obtain ⟨I', A', m, -, -, -, -, h, -⟩ := H
  rw [m.r18 hk, h k hk]
theorem Rs.p16 (H : Rs w b I J A v p wd N) (q : Nat) : ∃ v', pfV 6 16 v b (.int (nI q)) = some v' ∧ Rs w b I J A v' q wd N := by
  obtain ⟨I', A', m, h1, h2, h3, h4, h5, h6⟩ := H
  obtain ⟨v1, e1, m1, q1⟩ := m.p16 (nI q)
  exact ⟨v1, e1, _, A', m1, setI_self, by rw [setI_ne (by decide)]; exact h2, fun k a c => by rw [setI_ne a]; exact h3 k a c, h4, h5, fun z hz => (q1 z hz).trans (h6 z hz)⟩
theorem Rs.p17 (H : Rs w b I J A v p wd N) (x : Int32) : ∃ v', pfV 6 17 v b (.int x) = some v' ∧ Rs w b I J A v' p x N := by
  obtain ⟨I', A', m, h1, h2, h3, h4, h5, h6⟩ := H
  obtain ⟨v1, e1, m1, q1⟩ := m.p17 x
  exact ⟨v1, e1, _, A', m1, by rw [setI_ne (by decide)]; exact h1, setI_self, fun k a c => by rw [setI_ne c]; exact h3 k a c, h4, h5, fun z hz => (q1 z hz).trans (h6 z hz)⟩
theorem Rs.nw (H : Rs w b I J A v p wd N) (x : Int32) {k : Nat} (hk : k < 3) : ∃ v', asI 0 v (b + 9) (nI k) x = some v' ∧ Rs w b I J A v' p wd (upd N k x) := by
  obtain ⟨I', A', m, h1, h2, h3, h4, h5, h6⟩ := H
  obtain ⟨v1, e1, m1, q1⟩ := m.w18 x hk
  refine ⟨v1, e1, I', _, m1, h1, h2, h3, fun j k hj => (setF_row hj).trans (h4 j k hj), fun i hi => ?_, fun z hz => (q1 z hz).trans (h6 z hz)⟩
  by_cases e : i = k
  · subst e
    rw [setF_self, pk_us]
  · rw [setF_col e, pk_un e, h5 i hi]
theorem k_isAt {lo hi : Int32} (H : Rs w b I J A v p wd N) (hL : I 6 = nI L) (h120 : L ≤ 120) (hB : ∀ k, k < L → A 3 k = B k) (hp : p ≤ L) : m_X7_isAt n v b lo hi = some (if nxB (fun x => decide (m_X6_inside x lo hi ≠ 0)) B L p = true then 1 else 0) := by
  rw [m_X7_isAt, H.i16, Option.bind_some, H.i6 hL, Option.bind_some]
  unfold nxB
  by_cases g : p < L
  · rw [if_neg (nI_ge g (by omega)), H.g5, Option.bind_some, Option.bind_some, H.by g h120 hB, Option.bind_some, decide_eq_true g, Bool.true_and]
    show (if m_X7_in (B p) lo hi = 0 then some 0 else some 1) = some (if decide (m_X6_inside (B p) lo hi ≠ 0) = true then 1 else 0)
    by_cases z : m_X6_inside (B p) lo hi = 0
    · rw [if_pos (show m_X7_in (B p) lo hi = 0 from z), decide_eq_false (fun q => q z), if_neg (show ¬ false = true by decide)]
    · rw [if_neg (show ¬ m_X7_in (B p) lo hi = 0 from z), decide_eq_true z, if_pos (show true = true from rfl)]
  · rw [if_pos (nI_le (by omega) (by omega)), decide_eq_false g, Bool.false_and, if_neg (show ¬ false = true by decide)]
theorem k_at1 {x : Int32} (H : Rs w b I J A v p wd N) (hL : I 6 = nI L) (h120 : L ≤ 120) (hB : ∀ k, k < L → A 3 k = B k) (hp : p ≤ L) : m_X7_isAt n v b x x = some (if nxB (fun y => decide (y = x)) B L p = true then 1 else 0) := by
  rw [k_isAt H hL h120 hB hp, ins_fun]
theorem k_skips (hn : 200 ≤ n) (H : Rs w b I J A v p wd N) (hL : I 6 = nI L) (h120 : L ≤ 120) (hB : ∀ k, k < L → A 3 k = B k) (hp : p ≤ L) : ∃ v', m_X7_skips n v b = some (if nxB isSp B L p = true then 1 else 0, v') ∧ Rs w b I J A v' (spP B L p) wd N := by
  obtain ⟨a1, a2, a3, a4⟩ := spc_c (B := B) hp h120
  have e32 : ∀ u k, k ≤ L → Rs w b I J A u k wd N → m_X7_isAt n u b 32 32 = some (if nxB isSp B L k = true then 1 else 0) := fun u k hk h => k_at1 (x := 32) h hL h120 hB hk
  rw [m_X7_skips, H.c, Option.bind_some, e32 v p hp H, Option.bind_some]
  generalize hx : (if nxB isSp B L p = true then (1 : Int32) else 0) = x
  have hbx : bck x = some () := by
    rw [← hx]
    split <;> rfl
  obtain ⟨z, e, v', rfl, h'⟩ := lp (σ := Wd) (R := Int32 × Wd) (fun t k u => m_X7_skips_p9 n t u b x) (fun k u => p ≤ k ∧ Rs w b I J A u k wd N) (fun z => ∃ v', z = (x, v') ∧ Rs w b I J A v' (spP B L p) wd N) (spP B L p) (by
    rintro t k u hk ⟨k1, h1⟩
    left
    have hkL : k < L := Nat.lt_of_lt_of_le hk a2
    obtain ⟨u1, e1, h2⟩ := h1.p16 (k + 1)
    refine ⟨u1, ?_, by omega, h2⟩
    show m_X7_skips_p9 n (t + 1) u b x = _
    rw [m_X7_skips_p9, h1.c, Option.bind_some, e32 u k (by omega) h1, Option.bind_some, if_pos (show nxB isSp B L k = true by unfold nxB; rw [decide_eq_true hkL, a3 k k1 hk]; rfl), if_neg ne1.1, h1.i16, Option.bind_some, nI_1, e1, Option.bind_some]) (by
    rintro t u ⟨k1, h1⟩
    refine ⟨_, ?_, u, rfl, h1⟩
    show m_X7_skips_p9 n (t + 1) u b x = _
    rw [m_X7_skips_p9, h1.c, Option.bind_some, e32 u _ a2 h1, Option.bind_some, if_neg (show ¬ nxB isSp B L (spP B L p) = true from fun q => a4 (nx_lt q)), if_pos rfl, hbx, Option.bind_some]) (spP B L p - p) p n v (by omega) (by omega) ⟨Nat.le_refl _, H⟩
  exact ⟨v', e, h'⟩
/-! words by their sums -/
def bN (B : Nat → Int32) (k : Nat) : Nat := (B k).toNatClampNeg
theorem lt_b {k : Nat} (h : isLt (B k) = true) : 97 ≤ bN B k ∧ bN B k ≤ 122 ∧ B k = nI (bN B k) := by
  have h1 : m_X6_inside (B k) 97 122 ≠ 0 := of_decide_eq_true h
  unfold m_X6_inside at h1
  by_cases a : B k < 97
  · rw [if_pos a] at h1
    exact absurd rfl h1
  · rw [if_neg a] at h1
    by_cases c : 122 < B k
    · rw [if_pos c] at h1
      exact absurd rfl h1
    · have h0 : ¬ B k < 0 := fun q => a (Int32.lt_trans q (by decide))
      obtain ⟨j, hj, e⟩ := nI_of2 (M := 122) (n := 122) rfl h0 (Int32.not_lt.mp c)
      unfold bN
      rw [e, nI_clamp (by omega)]
      refine ⟨?_, hj, rfl⟩
      rcases Nat.lt_or_ge j 97 with q | q
      · rw [e] at a
        exact absurd (nI_lt (b := 97) q (by decide)) a
      · exact q
def wvN (B : Nat → Int32) (p : Nat) : Nat → Nat
  | 0 => 0
  | k + 1 => 27 * wvN B p k + (bN B (p + k) - 96)
def w49 (v : Nat) : Nat := if v = 841 then 1 else if v = 92275 then 3 else if v = 267413 then 2 else if v = 400313 then 5 else if v = 10416091 then 4 else 0
theorem k_w49 {x : Nat} (hx : x < 2 ^ 31) : m_X7_wordFrom_p49 n v (nI x) = some (nI (w49 x)) := by
  have ne : ∀ m, m < 2 ^ 31 → x ≠ m → ¬ nI x = nI m := fun m hm h q => h ((nI_eq hx hm).mp q)
  have n1 : x ≠ 841 → ¬ nI x = 841 := ne 841 (by decide)
  have n2 : x ≠ 92275 → ¬ nI x = 92275 := ne 92275 (by decide)
  have n3 : x ≠ 267413 → ¬ nI x = 267413 := ne 267413 (by decide)
  have n4 : x ≠ 400313 → ¬ nI x = 400313 := ne 400313 (by decide)
  have n5 : x ≠ 10416091 → ¬ nI x = 10416091 := ne 10416091 (by decide)
  rw [m_X7_wordFrom_p49]
  unfold w49
  by_cases h1 : x = 841
  · rw [h1, if_pos (show nI 841 = 841 from rfl), if_pos rfl]; rfl
  by_cases h2 : x = 92275
  · rw [if_neg (n1 h1), if_neg h1, h2, if_pos (show nI 92275 = 92275 from rfl), if_pos rfl]; rfl
  by_cases h3 : x = 267413
  · rw [if_neg (n1 h1), if_neg h1, if_neg (n2 h2), if_neg h2, h3, if_pos (show nI 267413 = 267413 from rfl), if_pos rfl]; rfl
  by_cases h4 : x = 400313
  · rw [if_neg (n1 h1), if_neg h1, if_neg (n2 h2), if_neg h2, if_neg (n3 h3), if_neg h3, h4, if_pos (show nI 400313 = 400313 from rfl), if_pos rfl]; rfl
  by_cases h5 : x = 10416091
  · rw [if_neg (n1 h1), if_neg h1, if_neg (n2 h2), if_neg h2, if_neg (n3 h3), if_neg h3, if_neg (n4 h4), if_neg h4, h5, if_pos (show nI 10416091 = 10416091 from rfl), if_pos rfl]; rfl
  · rw [if_neg (n1 h1), if_neg h1, if_neg (n2 h2), if_neg h2, if_neg (n3 h3), if_neg h3, if_neg (n4 h4), if_neg h4, if_neg (n5 h5), if_neg h5]; rfl
theorem B_is {k m : Nat} (h : isLt (B k) = true) (hm : m < 2 ^ 31) : decide (B k = nI m) = decide (bN B k = m) := by
  obtain ⟨h1, h2, h3⟩ := lt_b h
  by_cases e : bN B k = m
  · rw [decide_eq_true e, decide_eq_true (by rw [h3, e])]
  · rw [decide_eq_false e, decide_eq_false (fun q => e (by
      rw [h3] at q
      exact (nI_eq (by omega) hm).mp q))]
theorem spl_no {q c : Nat} (h : q - p ≠ sLn c) : splB B p q c = false := by
  unfold splB
  rw [decide_eq_false h, Bool.false_and]
theorem wd_sum {q : Nat} (hpq : p ≤ q) (h5 : q - p ≤ 5) (hl : ∀ k, p ≤ k → k < q → isLt (B k) = true) : w49 (wvN B p (q - p)) = wdF B p q := by
  obtain ⟨d, rfl⟩ : ∃ d, q = p + d := ⟨q - p, by omega⟩
  rw [Nat.add_sub_cancel_left] at h5 ⊢
  have l0 : sLn 0 = 3 := rfl
  have l1 : sLn 1 = 4 := rfl
  have l2 : sLn 2 = 4 := rfl
  have l3 : sLn 3 = 5 := rfl
  have l4 : sLn 4 = 4 := rfl
  have hb : ∀ k, k < d → 97 ≤ bN B (p + k) ∧ bN B (p + k) ≤ 122 := fun k hk => by
    obtain ⟨a, c, -⟩ := lt_b (hl (p + k) (by omega) (by omega))
    exact ⟨a, c⟩
  have sp4 : ∀ c, sLn c = 4 → d = 4 → ∀ m0 m1 m2 m3, m0 < 2 ^ 31 → m1 < 2 ^ 31 → m2 < 2 ^ 31 → m3 < 2 ^ 31 → sBt c 0 = nI m0 → sBt c 1 = nI m1 → sBt c 2 = nI m2 → sBt c 3 = nI m3 → splB B p (p + d) c = (decide (bN B (p + 0) = m0) && (decide (bN B (p + 1) = m1) && (decide (bN B (p + 2) = m2) && decide (bN B (p + 3) = m3)))) := fun c hc hd m0 m1 m2 m3 g0 g1 g2 g3 t0 t1 t2 t3 => by
    unfold splB
    rw [Nat.add_sub_cancel_left, hc, decide_eq_true hd, Bool.true_and]
    show (decide (B (p + 0) = sBt c 0) && (decide (B (p + 1) = sBt c 1) && (decide (B (p + 2) = sBt c 2) && (decide (B (p + 3) = sBt c 3) && true)))) = _
    rw [t0, t1, t2, t3, B_is (hl _ (by omega) (by omega)) g0, B_is (hl _ (by omega) (by omega)) g1, B_is (hl _ (by omega) (by omega)) g2, B_is (hl _ (by omega) (by omega)) g3, Bool.and_true]
  unfold wdF
  rcases (show d = 0 ∨ d = 1 ∨ d = 2 ∨ d = 3 ∨ d = 4 ∨ d = 5 by omega) with rfl | rfl | rfl | rfl | rfl | rfl
  · rw [spl_no (c := 0) (by omega), spl_no (c := 1) (by omega), spl_no (c := 2) (by omega), spl_no (c := 3) (by omega), spl_no (c := 4) (by omega)]
    rfl
  · have := hb 0 (by decide)
    rw [spl_no (c := 0) (by omega), spl_no (c := 1) (by omega), spl_no (c := 2) (by omega), spl_no (c := 3) (by omega), spl_no (c := 4) (by omega)]
    have e : wvN B p 1 = 27 * 0 + (bN B (p + 0) - 96) := rfl
    unfold w49
    rw [e, if_neg (by omega), if_neg (by omega), if_neg (by omega), if_neg (by omega), if_neg (by omega)]
    rfl
  · have := hb 0 (by decide)
    have := hb 1 (by decide)
    rw [spl_no (c := 0) (by omega), spl_no (c := 1) (by omega), spl_no (c := 2) (by omega), spl_no (c := 3) (by omega), spl_no (c := 4) (by omega)]
    have e : wvN B p 2 = 27 * (27 * 0 + (bN B (p + 0) - 96)) + (bN B (p + 1) - 96) := rfl
    unfold w49
    rw [e, if_neg (by omega), if_neg (by omega), if_neg (by omega), if_neg (by omega), if_neg (by omega)]
    rfl
  · have := hb 0 (by decide)
    have := hb 1 (by decide)
    have := hb 2 (by decide)
    have e0 : splB B p (p + 3) 0 = (decide (bN B (p + 0) = 97) && (decide (bN B (p + 1) = 100) && decide (bN B (p + 2) = 100))) := by
      unfold splB
      rw [Nat.add_sub_cancel_left, l0, decide_eq_true rfl, Bool.true_and]
      show (decide (B (p + 0) = nI 97) && (decide (B (p + 1) = nI 100) && (decide (B (p + 2) = nI 100) && true))) = _
      rw [B_is (hl _ (by omega) (by omega)) (by decide), B_is (hl _ (by omega) (by omega)) (by decide), B_is (hl _ (by omega) (by omega)) (by decide), Bool.and_true]
    rw [e0, spl_no (c := 1) (by omega), spl_no (c := 2) (by omega), spl_no (c := 3) (by omega), spl_no (c := 4) (by omega)]
    have e : wvN B p 3 = 27 * (27 * (27 * 0 + (bN B (p + 0) - 96)) + (bN B (p + 1) - 96)) + (bN B (p + 2) - 96) := rfl
    unfold w49
    rw [e]
    generalize bN B (p + 0) = x0 at *
    generalize bN B (p + 1) = x1 at *
    generalize bN B (p + 2) = x2 at *
    by_cases g : x0 = 97 ∧ x1 = 100 ∧ x2 = 100
    · obtain ⟨rfl, rfl, rfl⟩ := g
      rfl
    · rw [if_neg (by omega), if_neg (by omega), if_neg (by omega), if_neg (by omega), if_neg (by omega), if_neg (fun q => g (by
        rw [Bool.and_eq_true, Bool.and_eq_true, decide_eq_true_eq, decide_eq_true_eq, decide_eq_true_eq] at q
        exact q))]
      rfl
  · have := hb 0 (by decide)
    have := hb 1 (by decide)
    have := hb 2 (by decide)
    have := hb 3 (by decide)
    rw [spl_no (c := 0) (by omega), sp4 1 l1 rfl 109 111 118 101 (by decide) (by decide) (by decide) (by decide) rfl rfl rfl rfl, sp4 2 l2 rfl 100 114 111 112 (by decide) (by decide) (by decide) (by decide) rfl rfl rfl rfl, spl_no (c := 3) (by omega), sp4 4 l4 rfl 116 105 99 107 (by decide) (by decide) (by decide) (by decide) rfl rfl rfl rfl]
    have e : wvN B p 4 = 27 * (27 * (27 * (27 * 0 + (bN B (p + 0) - 96)) + (bN B (p + 1) - 96)) + (bN B (p + 2) - 96)) + (bN B (p + 3) - 96) := rfl
    unfold w49
    rw [e]
    generalize bN B (p + 0) = x0 at *
    generalize bN B (p + 1) = x1 at *
    generalize bN B (p + 2) = x2 at *
    generalize bN B (p + 3) = x3 at *
    have no : ∀ m0 m1 m2 m3 : Nat, ¬ (x0 = m0 ∧ x1 = m1 ∧ x2 = m2 ∧ x3 = m3) → ¬ (decide (x0 = m0) && (decide (x1 = m1) && (decide (x2 = m2) && decide (x3 = m3)))) = true := fun m0 m1 m2 m3 h q => h (by
      rw [Bool.and_eq_true, Bool.and_eq_true, Bool.and_eq_true, decide_eq_true_eq, decide_eq_true_eq, decide_eq_true_eq, decide_eq_true_eq] at q
      exact q)
    by_cases g1 : x0 = 109 ∧ x1 = 111 ∧ x2 = 118 ∧ x3 = 101
    · obtain ⟨rfl, rfl, rfl, rfl⟩ := g1
      rfl
    by_cases g2 : x0 = 100 ∧ x1 = 114 ∧ x2 = 111 ∧ x3 = 112
    · obtain ⟨rfl, rfl, rfl, rfl⟩ := g2
      rfl
    by_cases g3 : x0 = 116 ∧ x1 = 105 ∧ x2 = 99 ∧ x3 = 107
    · obtain ⟨rfl, rfl, rfl, rfl⟩ := g3
      rfl
    · rw [if_neg (by omega), if_neg (by omega), if_neg (by omega), if_neg (by omega), if_neg (by omega), if_neg (show ¬ false = true by decide), if_neg (no _ _ _ _ g1), if_neg (no _ _ _ _ g2), if_neg (show ¬ false = true by decide), if_neg (no _ _ _ _ g3)]
  · have := hb 0 (by decide)
    have := hb 1 (by decide)
    have := hb 2 (by decide)
    have := hb 3 (by decide)
    have := hb 4 (by decide)
    have e3 : splB B p (p + 5) 3 = (decide (bN B (p + 0) = 115) && (decide (bN B (p + 1) = 112) && (decide (bN B (p + 2) = 101) && (decide (bN B (p + 3) = 101) && decide (bN B (p + 4) = 100))))) := by
      unfold splB
      rw [Nat.add_sub_cancel_left, l3, decide_eq_true rfl, Bool.true_and]
      show (decide (B (p + 0) = nI 115) && (decide (B (p + 1) = nI 112) && (decide (B (p + 2) = nI 101) && (decide (B (p + 3) = nI 101) && (decide (B (p + 4) = nI 100) && true))))) = _
      rw [B_is (hl _ (by omega) (by omega)) (by decide), B_is (hl _ (by omega) (by omega)) (by decide), B_is (hl _ (by omega) (by omega)) (by decide), B_is (hl _ (by omega) (by omega)) (by decide), B_is (hl _ (by omega) (by omega)) (by decide), Bool.and_true]
    rw [spl_no (c := 0) (by omega), spl_no (c := 1) (by omega), spl_no (c := 2) (by omega), e3, spl_no (c := 4) (by omega)]
    have e : wvN B p 5 = 27 * (27 * (27 * (27 * (27 * 0 + (bN B (p + 0) - 96)) + (bN B (p + 1) - 96)) + (bN B (p + 2) - 96)) + (bN B (p + 3) - 96)) + (bN B (p + 4) - 96) := rfl
    unfold w49
    rw [e]
    generalize bN B (p + 0) = x0 at *
    generalize bN B (p + 1) = x1 at *
    generalize bN B (p + 2) = x2 at *
    generalize bN B (p + 3) = x3 at *
    generalize bN B (p + 4) = x4 at *
    by_cases g : x0 = 115 ∧ x1 = 112 ∧ x2 = 101 ∧ x3 = 101 ∧ x4 = 100
    · obtain ⟨rfl, rfl, rfl, rfl, rfl⟩ := g
      rfl
    · rw [if_neg (by omega), if_neg (by omega), if_neg (by omega), if_neg (by omega), if_neg (by omega), if_neg (show ¬ false = true by decide), if_neg (show ¬ false = true by decide), if_neg (show ¬ false = true by decide), if_neg (fun q => g (by
        rw [Bool.and_eq_true, Bool.and_eq_true, Bool.and_eq_true, Bool.and_eq_true, decide_eq_true_eq, decide_eq_true_eq, decide_eq_true_eq, decide_eq_true_eq, decide_eq_true_eq] at q
        exact q)), if_neg (show ¬ false = true by decide)]
theorem wd_long {q : Nat} (h : 5 < q - p) : wdF B p q = 0 := by
  have l0 : sLn 0 = 3 := rfl
  have l1 : sLn 1 = 4 := rfl
  have l2 : sLn 2 = 4 := rfl
  have l3 : sLn 3 = 5 := rfl
  have l4 : sLn 4 = 4 := rfl
  unfold wdF
  rw [spl_no (c := 0) (by omega), spl_no (c := 1) (by omega), spl_no (c := 2) (by omega), spl_no (c := 3) (by omega), spl_no (c := 4) (by omega)]
  rfl
end RR
