/-! cursor, within -/
def bdN (x a s : Nat) : Nat := if x < a then a - x else if a + s < x then x - (a + s) else 0
def fqN (q x y : Nat) : Nat := bdN x (xN (q / 8)) (2 ^ sqE q - 1) * bdN x (xN (q / 8)) (2 ^ sqE q - 1) + bdN y (yN (q / 8)) (2 ^ sqE q - 1) * bdN y (yN (q / 8)) (2 ^ sqE q - 1)
theorem bdN_le {x a s : Nat} (hx : x < 64) (ha : a < 64) : bdN x a s ≤ 63 := by
  unfold bdN
  split
  · omega
  · split <;> omega
theorem fqN_le {q x y : Nat} (hq : q / 8 < 4096) (hx : x < 64) (hy : y < 64) : fqN q x y ≤ 7938 := by
  obtain ⟨⟨-, a2⟩, -, b2⟩ := xy6_all _ hq
  have h1 := bdN_le (s := 2 ^ sqE q - 1) hx a2
  have h2 := bdN_le (s := 2 ^ sqE q - 1) hy b2
  have := Nat.mul_le_mul h1 h1
  have := Nat.mul_le_mul h2 h2
  unfold fqN
  omega
theorem sz_all : ∀ e, e ≤ 6 → (1 : Int32) <<< (nI e &&& 31 : Int32) = nI (2 ^ e) := by
  intro e he
  rcases (show e = 0 ∨ e = 1 ∨ e = 2 ∨ e = 3 ∨ e = 4 ∨ e = 5 ∨ e = 6 by omega) with rfl | rfl | rfl | rfl | rfl | rfl | rfl <;> decide +kernel
theorem mn_nI {a b : Nat} (ha : a < 2 ^ 31) (hb : b < 2 ^ 31) : mnI (nI a) (nI b) = nI (min a b) := by
  unfold mnI
  rcases Nat.lt_or_ge b a with h | h
  · rw [if_pos ((nI_ltI hb ha).mpr h), Nat.min_eq_right (by omega)]
  · rw [if_neg (fun q => by have := (nI_ltI hb ha).mp q; omega), Nat.min_eq_left h]
theorem near_sq {x a s : Nat} (hx : x < 64) (ha : a < 64) : (nI x - nI (max a (min x (a + s)))) * (nI x - nI (max a (min x (a + s)))) = nI (bdN x a s * bdN x a s) := by
  have hm : max a (min x (a + s)) < 64 := by omega
  rw [(dsq_all x hx _ hm).1]
  unfold dsq
  have e : x - max a (min x (a + s)) + (max a (min x (a + s)) - x) = bdN x a s := by
    unfold bdN
    split
    · omega
    · split <;> omega
  rw [e]
theorem m_dist {q x y : Nat} (hq : q < 40000) (h6 : q % 8 ≤ 6) (h8 : q / 8 < 4096) (hx : x < 64) (hy : y < 64) : m_X3_distanceTo (nI q) (nI x) (nI y) = nI (fqN q x y) := by
  obtain ⟨⟨a1, a2⟩, b1, b2⟩ := xy6_all _ h8
  have hE := sqE_le q
  have hp : 2 ^ sqE q ≤ 64 := show 2 ^ sqE q ≤ 2 ^ 6 from Nat.pow_le_pow_right (by decide) hE
  have hp0 : 0 < 2 ^ sqE q := Nat.pow_pos (by decide)
  have es : m_X3_size (nI q) - 1 = nI (2 ^ sqE q - 1) := by
    rw [m_X3_size, sq_exp (by omega) h6, sz_all _ hE]
    exact pk_sub (b := 1) hp0
  show m_X6_distance (nI x) (nI y) (mxI (m_X3_xOf (m_X3_corner (nI q))) (mnI (nI x) ((m_X3_xOf (m_X3_corner (nI q))) + ((m_X3_size (nI q)) - 1)))) (mxI (m_X3_yOf (m_X3_corner (nI q))) (mnI (nI y) ((m_X3_yOf (m_X3_corner (nI q))) + ((m_X3_size (nI q)) - 1)))) = _
  rw [sq_corner (by omega), a1, b1, es, nI_add, nI_add, mn_nI (by omega) (by omega), mn_nI (by omega) (by omega), mx_nI (by omega) (by omega), mx_nI (by omega) (by omega), m_X6_distance, near_sq hx a2, near_sq hy b2, nI_add]
  rfl
theorem k_beyond {x a s : Nat} (hx : x < 64) (ha : a < 64) (hs : s < 64) : m_X7_beyond (nI x) (nI a) (nI (a + s)) = nI (bdN x a s) := by
  unfold m_X7_beyond bdN
  by_cases h : x < a
  · rw [if_neg (nI_ge h (by omega)), if_pos h, pk_sub (by omega)]
  · rw [if_pos (nI_le (by omega) (by omega)), if_neg h]
    by_cases g : a + s < x
    · rw [if_neg (nI_ge g (by omega)), if_pos g, pk_sub (by omega)]
    · rw [if_pos (nI_le (by omega) (by omega)), if_neg g]
      rfl
section CU
variable {n h c L : Nat} {w : Wd} {S : Nat → Int32} {P : Nat → Nat → Int32} {B : Nat → Int32} {r : Int32} {K : Nat → Nat} {xs : Nat → Int32} {i : Int32}
theorem k_farFrom {q x y : Nat} (hn : 60 ≤ n) (hq : q < 40000) (h6 : q % 8 ≤ 6) (h8 : q / 8 < 4096) (hx : x < 64) (hy : y < 64) : m_X7_farFrom n w (nI q) (nI x) (nI y) = some (nI (fqN q x y)) := by
  obtain ⟨⟨-, a2⟩, -, b2⟩ := xy6_all _ h8
  have hE := sqE_le q
  have hp : 2 ^ sqE q ≤ 64 := show 2 ^ sqE q ≤ 2 ^ 6 from Nat.pow_le_pow_right (by decide) hE
  have hp0 : 0 < 2 ^ sqE q := Nat.pow_pos (by decide)
  have es : (1 : Int32) <<< ((m_X7_span (nI q)) &&& 31 : Int32) - 1 = nI (2 ^ sqE q - 1) := by
    rw [k_span, sq_exp (by omega) h6, sz_all _ hE]
    exact pk_sub (b := 1) hp0
  rw [m_X7_farFrom, k_firstOf, sq_corner (by omega), m_xOf (by omega) h8, Option.bind_some, m_yOf (by omega) h8, Option.bind_some, es, nI_add, nI_add, k_beyond hx a2 (by omega), k_beyond hy b2 (by omega), pk_mul, pk_mul, nI_add]
  rfl
noncomputable def wiN (S : Nat → Int32) (cu d : Nat) (k : Nat) : Nat := cB (fun j => decide (fqN ((nds S 0).getD j 0) (cxN S cu) (cyN S cu) ≤ d)) k
theorem m_nodesWithin {a cu d : Nat} {cs : List Nat} (hn : 60 ≤ n) (hv : LvC w a cs (nds S 0)) (hc4 : C12 cs) (hN : NodesOf cs (nds S 0)) (hw : WF S) (hc : cu < 4) (hd : d ≤ 7938) : m_X1_nodesWithin n w a (nI d) (nI (cxN S cu)) (nI (cyN S cu)) = some (nI (wiN S cu d (nds S 0).length)) := by
  obtain ⟨x1, x2, y1, y2⟩ := c_ok hw hc
  have h24 := hv.2.2.2.2.1
  unfold m_X1_nodesWithin
  obtain ⟨v, e, rfl⟩ := lp (σ := Unit) (R := Int32) (fun t k _ => m_X1_nodesWithin_p6 n t w a (nI d) (nI (cxN S cu)) (nI (cyN S cu)) (nI (wiN S cu d k)) (nI k)) (fun _ _ => True) (fun v => v = nI (wiN S cu d (nds S 0).length)) (nds S 0).length (by
    rintro t k ⟨⟩ hk -
    left
    refine ⟨(), ?_, trivial⟩
    obtain ⟨p1, p2, p3, p4⟩ := node_m hc4 (hN.at hk)
    have hf := fqN_le (x := cxN S cu) (y := cyN S cu) p4 x1 y1
    rw [m_X1_nodesWithin_p6, hv.i3, Option.bind_some, if_neg (nI_ge hk (by omega)), hv.g2, Option.bind_some, hv.sqr hk, Option.bind_some, m_dist p1 p2 p4 x1 y1]
    show _ = m_X1_nodesWithin_p6 n t w a (nI d) (nI (cxN S cu)) (nI (cyN S cu)) (nI (wiN S cu d k + if decide (fqN ((nds S 0).getD k 0) (cxN S cu) (cyN S cu) ≤ d) then 1 else 0)) (nI (k + 1))
    by_cases z : fqN ((nds S 0).getD k 0) (cxN S cu) (cyN S cu) ≤ d
    · rw [if_neg (nI_nlt z (by omega)), if_pos (decide_eq_true z), nI_1, nI_1]
    · rw [if_pos (nI_lt (by omega) (by omega)), if_neg (fun q => z (of_decide_eq_true q)), nI_1]
      rfl) (by
    rintro t ⟨⟩ -
    exact ⟨_, by rw [m_X1_nodesWithin_p6, hv.i3, Option.bind_some, if_pos (Int32.le_refl _)], rfl⟩) (nds S 0).length 0 n () (by omega) (by omega) trivial
  exact e
noncomputable def cuV (S : Nat → Int32) (cu what : Nat) : Int32 := match what with
  | 0 => S (120 + 5 * cu)
  | 1 => S (121 + 5 * cu)
  | 2 => if S (122 + 5 * cu) = 0 then -1 else S (123 + 5 * cu)
  | 3 => if S (122 + 5 * cu) = 0 then -1 else S (124 + 5 * cu)
  | 4 => nI (cB (afB S (cxN S cu) (cyN S cu) (loC S cu)) 24)
  | _ => if S (122 + 5 * cu) = 0 then 0 else nI (wiN S cu (S (123 + 5 * cu)).toNatClampNeg (nds S 0).length)
theorem m_cursor6 {cu what : Nat} (hn : 60 ≤ n) (g : ClI w h S P c) (hw : WF S) (hc : cu < 4) (hwh : what < 6) : m_X6_cursor n w h (nI cu) (nI what) = some (cuV S cu what) := by
  obtain ⟨F, t, f0, fR⟩ := g.1
  obtain ⟨r1, r2, r3⟩ := fR.2.1 cu hc
  obtain ⟨x1, x2, y1, y2⟩ := c_ok hw hc
  obtain ⟨l1, l2, l3⟩ := loC_ok hw hc
  rw [m_X6_cursor, show (4 : Int32) = nI (3 + 1) from rfl, show (5 : Int32) = nI 5 from rfl, rv_0 (by decide) (by decide) (by omega) (by omega), throw0, Option.bind_some, g.n0, Option.bind_some, f0.q5, Option.bind_some, f0.r5 hc, Option.bind_some, Option.bind_some, f0.q6, Option.bind_some, f0.r6 hc, Option.bind_some, Option.bind_some, f0.q7, Option.bind_some, f0.r7 hc, Option.bind_some, r1, r2, r3, l2]
  have hla : (S (122 + 5 * cu) = 0 ∧ laI (loC S cu) = -1) ∨ (S (122 + 5 * cu) ≠ 0 ∧ ∃ d k, d ≤ 7938 ∧ k < 24 ∧ S (123 + 5 * cu) = nI d ∧ S (124 + 5 * cu) = nI k ∧ laI (loC S cu) = nI (d * 32 + k)) := by
    rcases l3 with ⟨z1, z2⟩ | ⟨z1, d, k, z2, z3, z4, z5, z6⟩
    · left
      rw [z2]
      exact ⟨z1, rfl⟩
    · right
      refine ⟨by rw [z1]; decide, d, k, z2, z3, z4, z5, ?_⟩
      unfold laI
      rw [if_neg (by omega), z6, Nat.add_sub_cancel]
  rcases (show what = 0 ∨ what = 1 ∨ what = 2 ∨ what = 3 ∨ what = 4 ∨ what = 5 by omega) with rfl | rfl | rfl | rfl | rfl | rfl
  · rw [if_pos (by decide)]; rfl
  · rw [if_neg (by decide), if_pos (by decide)]; rfl
  · rw [if_neg (by decide), if_neg (by decide), if_pos (by decide)]
    show _ = some (if S (122 + 5 * cu) = 0 then -1 else S (123 + 5 * cu))
    rcases hla with ⟨z1, z2⟩ | ⟨z1, d, k, z2, z3, z4, z5, z6⟩
    · rw [z2, if_pos rfl, if_pos z1]
    · rw [z6, if_neg (nI_m1 (by omega)), if_neg z1, z4, show (32 : Int32) = nI 32 from rfl, pk_div (by omega) (by decide) (by decide), show (d * 32 + k) / 32 = d by omega]
  · rw [if_neg (by decide), if_neg (by decide), if_neg (by decide), if_pos (by decide)]
    show _ = some (if S (122 + 5 * cu) = 0 then -1 else S (124 + 5 * cu))
    rcases hla with ⟨z1, z2⟩ | ⟨z1, d, k, z2, z3, z4, z5, z6⟩
    · rw [z2, if_pos rfl, if_pos z1]
    · rw [z6, if_neg (nI_m1 (by omega)), if_neg z1, z5, show (32 : Int32) = nI 32 from rfl, jrm_nI (by omega) (by decide) (by decide), show (d * 32 + k) % 32 = k by omega]
  · rw [if_neg (by decide), if_neg (by decide), if_neg (by decide), if_neg (by decide), if_pos (by decide), Option.bind_some, g.ck3, Option.bind_some, x2, y2, m_pairsAfter hn g.1 hw x1 y1 (by omega), Option.bind_some]
    rfl
  · rw [if_neg (by decide), if_neg (by decide), if_neg (by decide), if_neg (by decide), if_neg (by decide)]
    show _ = some (if S (122 + 5 * cu) = 0 then 0 else nI (wiN S cu (S (123 + 5 * cu)).toNatClampNeg (nds S 0).length))
    rcases hla with ⟨z1, z2⟩ | ⟨z1, d, k, z2, z3, z4, z5, z6⟩
    · rw [z2, if_pos rfl, if_pos z1]
    · obtain ⟨fo, e0, fc⟩ := g.fo
      obtain ⟨cs, a1, a2, a3, a4, a5⟩ := fc.lev hw (show 0 < 5 by decide)
      have lv0 := fc.1.lv (f := fun q21 => (chk 1 w q21).bind fun u22 => (m_X1_nodesWithin n w q21 (nI (d * 32 + k) / 32) (S (120 + 5 * cu)) (S (121 + 5 * cu))).bind fun x23 => some x23) (show 0 < 5 by decide)
      rw [z6, if_neg (nI_m1 (by omega)), if_neg z1, z4, nI_clamp (by omega), e0, Option.bind_some]
      refine lv0.trans ?_
      show ((chk 1 w (fo + 3 + 3 * 0)).bind fun u22 => (m_X1_nodesWithin n w (fo + 3 + 3 * 0) (nI (d * 32 + k) / 32) (S (120 + 5 * cu)) (S (121 + 5 * cu))).bind fun x23 => some x23) = _
      rw [a1.c, Option.bind_some, show (32 : Int32) = nI 32 from rfl, pk_div (by omega) (by decide) (by decide), show (d * 32 + k) / 32 = d by omega, x2, y2, m_nodesWithin hn a1 a4 a5 hw hc z2, Option.bind_some]
theorem k_tellCursor {b cu what : Nat} {I : Nat → Int32} {J : Nat → Int64} {A : Rw} (hn : 60 ≤ n) (m : MoC w b I J A) (hr : Row A S) (hw : WF S) (ht : Tb A 4 5 0 (nds S 0)) (hc : cu < 4) (hwh : what < 6) : m_X7_tellCursor n w b (nI cu) (nI what) = some (cuV S cu what) := by
  obtain ⟨x1, x2, y1, y2⟩ := c_ok hw hc
  obtain ⟨l1, l2, l3⟩ := loC_ok hw hc
  have h24 := nds_len hw 0
  have hN := nds_of hw 0
  have hc4 := cdS_12 hw (l := 0)
  have s1 : (120 : Int32) + 5 * nI cu + 1 = nI (121 + 5 * cu) := e120k cu 1
  have s2 : (120 : Int32) + 5 * nI cu + 2 = nI (122 + 5 * cu) := e120k cu 2
  have s3 : (120 : Int32) + 5 * nI cu + 3 = nI (123 + 5 * cu) := e120k cu 3
  have r0 := m.r0 (k := 120 + 5 * cu) (by omega)
  have r1 := m.r0 (k := 121 + 5 * cu) (by omega)
  have r2 := m.r0 (k := 122 + 5 * cu) (by omega)
  have r3 := m.r0 (k := 123 + 5 * cu) (by omega)
  have r4 := m.r0 (k := 124 + 5 * cu) (by omega)
  rw [hr _ (by omega)] at r0 r1 r2 r3 r4
  rw [m_X7_tellCursor]
  rcases (show what = 0 ∨ what = 1 ∨ what = 2 ∨ what = 3 ∨ what = 4 ∨ what = 5 by omega) with rfl | rfl | rfl | rfl | rfl | rfl
  · rw [if_pos (by decide), e120k, m.g0, Option.bind_some, show 120 + 0 + 5 * cu = 120 + 5 * cu by omega, r0, Option.bind_some]; rfl
  · rw [if_neg (by decide), if_pos (by decide), e120k, m.g0, Option.bind_some, show 120 + 1 + 5 * cu = 121 + 5 * cu by omega, r1, Option.bind_some]; rfl
  · have s5 : (120 : Int32) + 5 * nI cu + 1 + nI 2 = nI (123 + 5 * cu) := by rw [s1, nI_add]; exact congrArg nI (by omega)
    rw [if_neg (by decide), if_neg (by decide), if_pos (by decide), s2, s5, m.g0, Option.bind_some, r2, Option.bind_some]
    show (if S (122 + 5 * cu) = 0 then _ else _) = some (if S (122 + 5 * cu) = 0 then -1 else S (123 + 5 * cu))
    by_cases z : S (122 + 5 * cu) = 0
    · rw [if_pos z, if_pos z]
    · rw [if_neg z, if_neg z, Option.bind_some, r3, Option.bind_some]
  · have s5 : (120 : Int32) + 5 * nI cu + 1 + nI 3 = nI (124 + 5 * cu) := by rw [s1, nI_add]; exact congrArg nI (by omega)
    rw [if_neg (by decide), if_neg (by decide), if_neg (by decide), if_pos (by decide), s2, s5, m.g0, Option.bind_some, r2, Option.bind_some]
    show (if S (122 + 5 * cu) = 0 then _ else _) = some (if S (122 + 5 * cu) = 0 then -1 else S (124 + 5 * cu))
    by_cases z : S (122 + 5 * cu) = 0
    · rw [if_pos z, if_pos z]
    · rw [if_neg z, if_neg z, Option.bind_some, r4, Option.bind_some]
  · rw [if_neg (by decide), if_neg (by decide), if_neg (by decide), if_neg (by decide), if_pos (by decide)]
    obtain ⟨v, e, rfl⟩ := lp (σ := Unit) (R := Int32) (fun t k _ => m_X7_tellCursor_p82 n t w b (nI cu) (nI (cB (afB S (cxN S cu) (cyN S cu) (loC S cu)) k)) (nI k)) (fun _ _ => True) (fun v => v = cuV S cu 4) 24 (by
      rintro t k ⟨⟩ hk -
      left
      refine ⟨(), ?_, trivial⟩
      rw [m_X7_tellCursor_p82, if_neg (show ¬ (24 : Int32) ≤ nI k from nI_ge hk (by decide)), m.c, Option.bind_some, k_behind m hr hw hk hc, Option.bind_some, cB_s]
      by_cases z : afB S (cxN S cu) (cyN S cu) (loC S cu) k = true
      · rw [if_pos z, if_neg ne1.1, if_pos z, nI_1, nI_1]
      · rw [if_neg z, if_pos rfl, if_neg z, Int32.add_zero, nI_1]
        rfl) (by
      rintro t ⟨⟩ -
      exact ⟨_, by rw [m_X7_tellCursor_p82, if_pos (by decide)]; rfl, rfl⟩) 24 0 n () rfl (by omega) trivial
    exact e
  · rw [if_neg (by decide), if_neg (by decide), if_neg (by decide), if_neg (by decide), if_neg (by decide), e120]
    have t1 : nI (120 + 5 * cu) + 1 = nI (121 + 5 * cu) := (nI_add _ 1).trans (congrArg nI (by omega))
    have t2 : nI (120 + 5 * cu) + 2 = nI (122 + 5 * cu) := (nI_add _ 2).trans (congrArg nI (by omega))
    have t3 : nI (120 + 5 * cu) + 3 = nI (123 + 5 * cu) := (nI_add _ 3).trans (congrArg nI (by omega))
    have r8 : agI 0 w (b + 6) 0 = some (nI (nds S 0).length) := by
      rw [show agI 0 w (b + 6) 0 = some (A 5 0) from m.r8 (k := 0) (by decide), ht.1]
    show _ = some (if S (122 + 5 * cu) = 0 then 0 else nI (wiN S cu (S (123 + 5 * cu)).toNatClampNeg (nds S 0).length))
    rcases l3 with ⟨z1, z2⟩ | ⟨z1, d, k, z2, z3, z4, z5, z6⟩
    · obtain ⟨t, ht⟩ : ∃ u, n = u + 1 := ⟨n - 1, by omega⟩
      have hp := nds_pos hw 0
      rw [show m_X7_tellCursor_p121 n n w b (nI (120 + 5 * cu)) 0 0 = m_X7_tellCursor_p121 n (t + 1) w b (nI (120 + 5 * cu)) 0 0 by rw [← ht], m_X7_tellCursor_p121, m.g8, Option.bind_some, r8, Option.bind_some, if_neg (nI_nle hp (by omega)), m.g0, Option.bind_some, t2, r2, Option.bind_some, z1, if_neg (show ¬ (0 : Int32) = 1 by decide), if_pos rfl]
    · rw [if_neg (by rw [z1]; decide), z4, nI_clamp (by omega)]
      obtain ⟨v, e, rfl⟩ := lp (σ := Unit) (R := Int32) (fun t k _ => m_X7_tellCursor_p121 n t w b (nI (120 + 5 * cu)) (nI (wiN S cu d k)) (nI k)) (fun _ _ => True) (fun v => v = nI (wiN S cu d (nds S 0).length)) (nds S 0).length (by
        rintro t k ⟨⟩ hk -
        left
        refine ⟨(), ?_, trivial⟩
        obtain ⟨p1, p2, p3, p4⟩ := node_m hc4 (hN.at hk)
        have hf := fqN_le (x := cxN S cu) (y := cyN S cu) p4 x1 y1
        rw [m_X7_tellCursor_p121, m.g8, Option.bind_some, r8, Option.bind_some, if_neg (nI_ge hk (by omega)), m.g0, t1, t2, t3]
        simp only [Option.bind_some, r0, r1, r2, r3]
        rw [z1, if_pos rfl, m.c, Option.bind_some, show m_X7_nodeAt n w b 0 (nI k) = _ from k_nodeAt m (show 0 < 5 by decide) ht h24 hk, Option.bind_some, x2, y2, k_farFrom hn p1 p2 p4 x1 y1, Option.bind_some, z4]
        show _ = m_X7_tellCursor_p121 n t w b (nI (120 + 5 * cu)) (nI (wiN S cu d k + if decide (fqN ((nds S 0).getD k 0) (cxN S cu) (cyN S cu) ≤ d) then 1 else 0)) (nI (k + 1))
        by_cases z : fqN ((nds S 0).getD k 0) (cxN S cu) (cyN S cu) ≤ d
        · rw [if_neg (nI_nlt z (by omega)), if_pos (decide_eq_true z), nI_1, nI_1]
        · rw [if_pos (nI_lt (by omega) (by omega)), if_neg (fun q => z (of_decide_eq_true q)), Int32.add_zero, nI_1]
          rfl) (by
        rintro t ⟨⟩ -
        exact ⟨_, by rw [m_X7_tellCursor_p121, m.g8, Option.bind_some, r8, Option.bind_some, if_pos (Int32.le_refl _)], rfl⟩) (nds S 0).length 0 n () (by omega) (by omega) trivial
      exact e
theorem B_cursor (hn : 600 ≤ n) (H : InvK h w) : ∃ w', mc_15 K n w h (h + 87) (h + 97) xs i = some w' ∧ InvK h w' := by
  obtain ⟨S, P, c, L, B, r, H⟩ := H
  generalize ea : xs (Int32.toNatClampNeg (i + 1)) = a
  generalize ex : xs (Int32.toNatClampNeg (i + 2)) = x
  show ∃ w', mcF (fun w1 => m_X7_cursor n w1 (h + 87) (xs (Int32.toNatClampNeg (i + 1))) (xs (Int32.toNatClampNeg (i + 2)))) (m_L_cursor n w h (xs (Int32.toNatClampNeg (i + 1))) (xs (Int32.toNatClampNeg (i + 2))) (h + 97)) n (h + 87) (h + 97) = some w' ∧ _
  rw [ea, ex]
  have H0 := H
  obtain ⟨hw, g, sc, M, o⟩ := H
  rcases rv_c a x (m := 3) (g := 5) (by decide) (by decide) with ⟨h1, h3⟩ | ⟨h1, -, h2, h3⟩ | ⟨h1, h2, h3, cu, wh, h4, h5, rfl, rfl⟩
  · have h3' : m_X6_refusalOfValue a 4 x 5 = 1 := h3
    obtain ⟨w3, f3, m3, q3⟩ := k_no (n := n) (k := 1) pos1.1 M
    refine case_no (v := 0) H0 ne1.1 ?_ ⟨w3, ?_, m3, q3⟩
    · rw [m_L_cursor, g.ck, Option.bind_some, q_X6_cursor, h3', Option.bind_some, if_neg ne1.1, if_pos rfl]
    · rw [m_X7_cursor, if_pos (show m_X7_isCursor a = 0 from h1), M.ck, Option.bind_some, f3, Option.bind_some, if_neg ne1.1]
  · have h3' : m_X6_refusalOfValue a 4 x 5 = 2 := h3
    obtain ⟨w3, f3, m3, q3⟩ := k_no (n := n) (k := 2) pos1.2.1 M
    refine case_no (v := 0) H0 ne1.2.1 ?_ ⟨w3, ?_, m3, q3⟩
    · rw [m_L_cursor, g.ck, Option.bind_some, q_X6_cursor, h3', Option.bind_some, if_neg ne1.2.1, if_neg ne1.2.2.2.1, if_pos rfl]
    · rw [m_X7_cursor, if_neg (show ¬ m_X7_isCursor a = 0 from fun q => absurd (h1.symm.trans q) (by decide)), if_pos (show m_X7_in x 0 5 = 0 from h2), M.ck, Option.bind_some, f3, Option.bind_some, if_neg ne1.1]
  · have h3' : m_X6_refusalOfValue (nI cu) 4 (nI wh) 5 = 0 := h3
    refine case_ok H0 (w1 := w) (v := cuV S cu wh) ?_ hw g sc (fun _ _ => rfl) fun v2 m2 => ?_
    · rw [m_L_cursor, g.ck, Option.bind_some, q_X6_cursor, h3', Option.bind_some, if_pos rfl, m_cursor6 (by omega) g hw (by omega) (by omega), Option.bind_some]
    · obtain ⟨I, J, A, m⟩ := m2
      obtain ⟨u1, f1, m1, q1⟩ := k_ref0 (n := n) m
      obtain ⟨u2, A2, f2, m2, t2, q2⟩ := k_lays (n := n) (by omega) m1 hw
      refine ⟨u2, ?_, ⟨_, _, _, m2⟩, fun z hz => (q2 z hz).trans (q1 z hz)⟩
      rw [m_X7_cursor, if_neg (show ¬ m_X7_isCursor (nI cu) = 0 from fun q => absurd (h1.symm.trans q) (by decide)), if_neg (show ¬ m_X7_in (nI wh) 0 5 = 0 from fun q => absurd (h2.symm.trans q) (by decide)), m.ck, Option.bind_some, f1, Option.bind_some, if_pos rfl, m1.ck, Option.bind_some, f2, Option.bind_some, m2.ck, Option.bind_some, k_tellCursor (by omega) m2.1 m2.2.1 hw (t2 0 (by decide)) (by omega) (by omega), Option.bind_some]
end CU
