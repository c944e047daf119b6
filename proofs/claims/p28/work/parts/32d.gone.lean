/-! THE LAW'S isGone -/
theorem n_or (a b : Nat) : nI a ||| nI b = nI (a ||| b) := by
  apply Int32.toBitVec_inj.1
  show BitVec.ofNat 32 a ||| BitVec.ofNat 32 b = BitVec.ofNat 32 (a ||| b)
  apply BitVec.eq_of_getLsbD_eq
  intro i hi
  simp [hi]
theorem sh24 : ∀ i, i < 24 → ((nI i &&& 31 : Int32).toBitVec.smod 32).toNat = i := by decide +kernel
theorem one24 : ∀ i, i < 24 → ((1 : Int32) <<< ((nI i &&& 31) &&& 31 : Int32)) = nI (2 ^ i) := by decide +kernel
theorem bit_at {m i : Nat} (hm : m < 2 ^ 24) (hi : i < 24) : ((nI m >>> (nI i &&& 31 : Int32)) &&& 1) = if m.testBit i then 1 else 0 := by
  rw [pk_shrN (by omega) _ i (sh24 i hi), pk_andN (k := 1) (Nat.lt_trans (Nat.lt_of_le_of_lt (Nat.div_le_self _ _) hm) (by decide)) rfl, Nat.testBit_eq_decide_div_mod_eq]
  have : m / 2 ^ i % 2 = 0 ∨ m / 2 ^ i % 2 = 1 := by omega
  rcases this with z | z
  · rw [show (2 : Nat) ^ 1 = 2 from rfl, z]
    rfl
  · rw [show (2 : Nat) ^ 1 = 2 from rfl, z]
    rfl
section SP
variable {S S' : Nat → Int32}
theorem SameP.h (e : SameP S S') {i : Nat} (hi : i < 24) : herB S' i = herB S i := by
  unfold herB
  rw [(e i hi).1]
theorem SameP.p (e : SameP S S') {i x y : Nat} (hi : i < 24) : pN S' x y i = pN S x y i := by
  unfold pN dN pxN pyN
  rw [(e i hi).2.1, (e i hi).2.2]
theorem SameP.m (e : SameP S S') {x y lo : Nat} : ∀ k, k ≤ 24 → mA S' x y lo k = mA S x y lo k
  | 0, _ => rfl
  | k + 1, h => by
    rw [mA, mA, SameP.m e k (by omega), e.h (show k < 24 by omega), e.p (show k < 24 by omega)]
theorem SameP.sn (e : SameP S S') {x y : Nat} : ∀ r, snN S' x y r = snN S x y r
  | 0 => e.m 24 (Nat.le_refl _)
  | r + 1 => by
    rw [snN, snN, SameP.sn e r]
    exact e.m 24 (Nat.le_refl _)
theorem SameP.af (e : SameP S S') {x y lo : Nat} : cB (afB S' x y lo) 24 = cB (afB S x y lo) 24 := cB_cong fun i hi => by
  unfold afB
  rw [e.h hi, e.p hi]
theorem SameP.her (e : SameP S S') : cB (herB S') 24 = cB (herB S) 24 := cB_cong fun i hi => e.h hi
end SP
theorem lt_af {S : Nat → Int32} {x y lo : Nat} : ∀ k, cB (ltB S x y lo) k + cB (afB S x y lo) k = cB (herB S) k
  | 0 => rfl
  | k + 1 => by
    have ih := lt_af (S := S) (x := x) (y := y) (lo := lo) k
    rw [cB_s, cB_s, cB_s]
    unfold ltB afB at *
    cases herB S k with
    | false =>
      rw [Bool.false_and, Bool.false_and, if_neg (show ¬ false = true by decide)]
      omega
    | true =>
      rw [Bool.true_and, Bool.true_and, if_pos (show true = true from rfl)]
      by_cases z : lo ≤ pN S x y k
      · rw [decide_eq_true z, decide_eq_false (show ¬ pN S x y k < lo by omega), if_neg (show ¬ false = true by decide), if_pos (show true = true from rfl)]
        omega
      · rw [decide_eq_false z, decide_eq_true (show pN S x y k < lo by omega), if_neg (show ¬ false = true by decide), if_pos (show true = true from rfl)]
        omega
/-- the least pair of the points from the r-th on -/
def loR (S : Nat → Int32) (x y : Nat) : Nat → Nat
  | 0 => 0
  | r + 1 => snN S x y r
theorem loR_sn (S : Nat → Int32) (x y : Nat) : ∀ r, mA S x y (loR S x y r) 24 = snN S x y r
  | 0 => rfl
  | _ + 1 => rfl
theorem loR_c {S : Nat → Int32} {x y : Nat} : ∀ r, r ≤ cB (herB S) 24 → cB (ltB S x y (loR S x y r)) 24 = r
  | 0, _ => by
    have : cB (ltB S x y 0) 24 = cB (fun _ => false) 24 := cB_cong fun j _ => by
      unfold ltB
      rw [decide_eq_false (Nat.not_lt_zero _), Bool.and_false]
    rw [loR, this]
    rfl
  | r + 1, h => by
    obtain ⟨i, -, -, b3, -, b5⟩ := sn_c (S := S) (x := x) (y := y) r (by omega)
    rw [loR, b3, b5]
theorem loR_end {S : Nat → Int32} {x y : Nat} : mA S x y (loR S x y (cB (herB S) 24)) 24 = 0 := by
  have h := loR_c (S := S) (x := x) (y := y) _ (Nat.le_refl _)
  rcases mA_c S x y (loR S x y (cB (herB S) 24)) 24 with ⟨a, -⟩ | ⟨i, a1, a2, a3, -, -⟩
  · exact a
  · have := (cB_lt (p := ltB S x y (loR S x y (cB (herB S) 24))) (q := herB S) (k := 24) fun j _ hj => by
      unfold ltB at hj
      rw [Bool.and_eq_true] at hj
      exact hj.1).2 ⟨i, a1, a2, by
        unfold ltB
        rw [decide_eq_false (by omega), Bool.and_false]⟩
    omega
/-- the state in the midst of a cursor's way -/
def CuS (S T : Nat → Int32) (cu x y r : Nat) : Prop := WF T ∧ SameP S T ∧ T (120 + 5 * cu) = nI x ∧ T (121 + 5 * cu) = nI y ∧ loC T cu = loR S x y r
theorem SameP.trans {S T U : Nat → Int32} (h : SameP S T) (g : SameP T U) : SameP S U := fun i hi => ⟨(g i hi).1.trans (h i hi).1, (g i hi).2.1.trans (h i hi).2.1, (g i hi).2.2.trans (h i hi).2.2⟩
theorem nxt_same {T : Nat → Int32} {cu : Nat} : SameP T (nxS T cu) := by
  unfold nxS
  split
  · exact fun i _ => ⟨rfl, rfl, rfl⟩
  · intro i hi
    unfold nxtS upd
    refine ⟨?_, ?_, ?_⟩ <;> rw [if_neg (by omega), if_neg (by omega), if_neg (by omega)]
theorem opn_same {S : Nat → Int32} {cu : Nat} {x y : Int32} : SameP S (opnS S cu x y) := by
  intro i hi
  unfold opnS upd
  refine ⟨?_, ?_, ?_⟩ <;> rw [if_neg (by omega), if_neg (by omega), if_neg (by omega)]
theorem CuS.cx {S T : Nat → Int32} {cu x y r : Nat} (h : CuS S T cu x y r) (hx : x < 64) (hy : y < 64) : cxN T cu = x ∧ cyN T cu = y := by
  unfold cxN cyN
  rw [h.2.2.1, h.2.2.2.1, nI_clamp (by omega), nI_clamp (by omega)]
  exact ⟨rfl, rfl⟩
theorem CuS.nx {S T : Nat → Int32} {cu x y r : Nat} (h : CuS S T cu x y r) (hx : x < 64) (hy : y < 64) : nxM T cu = snN S x y r := by
  obtain ⟨e1, e2⟩ := h.cx hx hy
  unfold nxM
  rw [e1, e2, h.2.2.2.2, h.2.1.m 24 (Nat.le_refl _), loR_sn]
theorem CuS.next {S T : Nat → Int32} {cu x y r : Nat} (h : CuS S T cu x y r) (hc : cu < 4) (hx : x < 64) (hy : y < 64) (hr : r < cB (herB S) 24) :
    ∃ i d, i < 24 ∧ herB S i = true ∧ snN S x y r = pN S x y i + 1 ∧ pN S x y i = d * 32 + i ∧ d ≤ 7938 ∧ nxM T cu = pN S x y i + 1 ∧ CuS S (nxS T cu) cu x y (r + 1) ∧ nxS T cu (122 + 5 * cu) = 1 ∧ nxS T cu (123 + 5 * cu) = nI d ∧ nxS T cu (124 + 5 * cu) = nI i := by
  obtain ⟨i, b1, b2, b3, b4, b5⟩ := sn_c (S := S) (x := x) (y := y) r hr
  have e := h.nx hx hy
  have hw := h.1
  have hd : dN S i x y ≤ 7938 := by
    have q := (dN_ok hw b1 hx hy).2
    have q2 : dN T i x y = dN S i x y := by
      unfold dN pxN pyN
      rw [(h.2.1 i b1).2.1, (h.2.1 i b1).2.2]
    omega
  have ep : pN S x y i = dN S i x y * 32 + i := rfl
  have em : nxM T cu = pN S x y i + 1 := by rw [e, b3]
  have en : nxS T cu = nxtS T cu (pN S x y i + 1) := by
    unfold nxS
    rw [em, if_neg (Nat.succ_ne_zero _)]
  have f1 : nxS T cu (122 + 5 * cu) = 1 := by
    rw [en]
    unfold nxtS upd
    rw [if_neg (by omega), if_neg (by omega), if_pos rfl]
  have f2 : nxS T cu (123 + 5 * cu) = nI (dN S i x y) := by
    rw [en]
    unfold nxtS upd
    rw [if_neg (by omega), if_pos rfl, show (pN S x y i + 1 - 1) / 32 = dN S i x y by omega]
  have f3 : nxS T cu (124 + 5 * cu) = nI i := by
    rw [en]
    unfold nxtS upd
    rw [if_pos rfl, show (pN S x y i + 1 - 1) % 32 = i by omega]
  have f4 : nxS T cu (120 + 5 * cu) = nI x := by
    rw [en]
    unfold nxtS upd
    rw [if_neg (by omega), if_neg (by omega), if_neg (by omega)]
    exact h.2.2.1
  have f5 : nxS T cu (121 + 5 * cu) = nI y := by
    rw [en]
    unfold nxtS upd
    rw [if_neg (by omega), if_neg (by omega), if_neg (by omega)]
    exact h.2.2.2.1
  refine ⟨i, dN S i x y, b1, b2, b3, ep, hd, em, ⟨hw.nxOk hc, h.2.1.trans nxt_same, f4, f5, ?_⟩, f1, f2, f3⟩
  unfold loC
  rw [if_neg (by rw [f1]; decide), f2, f3, nI_clamp (by omega), nI_clamp (by omega), loR, b3]
  omega
section KG
variable {n h c L : Nat} {w : Wd} {S T : Nat → Int32} {P : Nat → Nat → Int32} {B : Nat → Int32}
theorem l_near (hn : 600 ≤ n) (H : Kc w h S P c L B) {p q k : Nat} (hp : p < 64) (hq : q < 64) (hk : k < cB (herB S) 24) : m_LX_nearest n w h (nI p) (nI q) (nI k) = some (laI (itN S p q k 24)) := by
  rw [m_LX_nearest, H.2.1.ck, Option.bind_some, x_near hn H hp hq hk]
theorem wi_pos (hw : WF S) (cu d : Nat) (h1 : cxN S cu < 64) (h2 : cyN S cu < 64) : 1 ≤ wiN S cu d (nds S 0).length := by
  obtain ⟨z1, z2⟩ := nd_0 (nds_of hw 0)
  have p0 : decide (fqN ((nds S 0).getD 0 0) (cxN S cu) (cyN S cu) ≤ d) = true := by
    refine decide_eq_true ?_
    rw [z2]
    have e1 : xN (0 / 8) = 0 := by decide
    have e2 : yN (0 / 8) = 0 := by decide
    have e3 : 2 ^ sqE 0 - 1 = 63 := by decide
    unfold fqN bdN
    rw [e1, e2, e3, if_neg (by omega), if_neg (by omega), if_neg (by omega), if_neg (by omega)]
    exact Nat.zero_le _
  have one : ∀ m, 0 < m → 1 ≤ wiN S cu d m := by
    intro m
    induction m with
    | zero => intro z; exact absurd z (Nat.lt_irrefl 0)
    | succ m ih =>
      intro _
      unfold wiN at ih ⊢
      rw [cB_s]
      by_cases z : m = 0
      · subst z
        rw [if_pos p0]
        omega
      · have := ih (by omega)
        omega
  exact one _ z1
theorem ig_loop (hn : 600 ≤ n) {cu x y : Nat} (hc : cu < 4) (hx : x < 64) (hy : y < 64) (H : Kc w h T P c L B) (hT : CuS S T cu x y 0) :
    ∃ w' S' P' c', m_L_isGone_p58 n n w h (nI cu) (nI x) (nI y) (nI (cB (herB S) 24)) 1 0 0 = some (1, w') ∧ Kc w' h S' P' c' L B := by
  have c24 : cB (herB S) 24 ≤ 24 := cB_le _ 24
  obtain ⟨v, e, S', P', c', hv, HK⟩ := lp (σ := Wd × Nat) (R := Int32 × Wd) (fun t r s => m_L_isGone_p58 n t s.1 h (nI cu) (nI x) (nI y) (nI (cB (herB S) 24)) 1 (nI s.2) (nI r)) (fun r s => s.2 < 2 ^ 24 ∧ (∀ j, j < 24 → s.2.testBit j = ltB S x y (loR S x y r) j) ∧ ∃ T P c, Kc s.1 h T P c L B ∧ CuS S T cu x y r) (fun v => ∃ S' P' c', v.1 = 1 ∧ Kc v.2 h S' P' c' L B) (cB (herB S) 24) (by
    rintro t r ⟨w, m⟩ hr ⟨hm, hbit, T, P, c, H, hT⟩
    left
    obtain ⟨i, d, b1, b2, b3, b4, b5, b6, b7, f1, f2, f3⟩ := hT.next hc hx hy hr
    obtain ⟨w1, e1, H1⟩ := x_next hn H hc
    have hm' : m < 2 ^ 24 := hm
    have hb' : ∀ j, j < 24 → m.testBit j = ltB S x y (loR S x y r) j := hbit
    have v1 : vnx (nxM T cu) = nI i := by
      unfold vnx
      rw [b6, if_neg (Nat.succ_ne_zero _), show (pN S x y i + 1 - 1) % 32 = i by omega]
    have n1 : m_LX_next n w h (nI cu) = some (nI i, w1) := by rw [m_LX_next, H.2.1.ck, Option.bind_some, e1, v1]
    have eh := b7.2.1.her
    have n2 : m_LX_nearest n w1 h (nI x) (nI y) (nI r) = some (nI i) := by
      rw [l_near hn H1 hx hy (by rw [eh]; exact hr), (near_eq (S := nxS T cu) (x := x) (y := y) (r := r)).2 (by rw [eh]; exact hr) |>.2, b7.2.1.sn r, b3, show (pN S x y i + 1 - 1) % 32 = i by omega]
      unfold laI
      rw [if_neg (Nat.succ_ne_zero _), Nat.add_sub_cancel]
    have lo : loR S x y r ≤ pN S x y i := by
      have q := loR_sn S x y r
      rw [b3] at q
      rcases mA_c S x y (loR S x y r) 24 with ⟨a, -⟩ | ⟨i', a1, a2, a3, a4, a5⟩
      · omega
      · rw [a4] at q
        omega
    have bit0 : m.testBit i = false := by
      rw [hb' i b1]
      unfold ltB
      rw [decide_eq_false (by omega), Bool.and_false]
    have bz : ((nI m >>> (nI i &&& 31 : Int32)) &&& 1) = 0 := by
      rw [bit_at hm' b1, bit0]
      rfl
    have q3 : cuV (nxS T cu) cu 3 = nI i := by
      show (if nxS T cu (122 + 5 * cu) = 0 then -1 else nxS T cu (124 + 5 * cu)) = nI i
      rw [if_neg (by rw [f1]; decide), f3]
    have n3 : m_LX_cursor n w1 h (nI cu) 3 = some (nI i) := by
      rw [← q3]
      exact l_cursor (what := 3) hn H1 hc (by decide)
    obtain ⟨cx, cy⟩ := b7.cx hx hy
    have lt1 := loR_c (S := S) (x := x) (y := y) (r + 1) hr
    have af := lt_af (S := S) (x := x) (y := y) (lo := loR S x y (r + 1)) 24
    have q4 : cuV (nxS T cu) cu 4 = nI (cB (herB S) 24 - r - 1) := by
      show nI (cB (afB (nxS T cu) (cxN (nxS T cu) cu) (cyN (nxS T cu) cu) (loC (nxS T cu) cu)) 24) = _
      rw [cx, cy, b7.2.2.2.2, b7.2.1.af]
      exact congrArg nI (by omega)
    have n4 : m_LX_cursor n w1 h (nI cu) 4 = some (nI (cB (herB S) 24 - r - 1)) := by
      rw [← q4]
      exact l_cursor (what := 4) hn H1 hc (by decide)
    have q5 : cuV (nxS T cu) cu 5 = nI (wiN (nxS T cu) cu d (nds (nxS T cu) 0).length) := by
      show (if nxS T cu (122 + 5 * cu) = 0 then (0 : Int32) else nI (wiN (nxS T cu) cu (nxS T cu (123 + 5 * cu)).toNatClampNeg (nds (nxS T cu) 0).length)) = _
      rw [if_neg (by rw [f1]; decide), f2, nI_clamp (by omega)]
    have n5 : m_LX_cursor n w1 h (nI cu) 5 = some (nI (wiN (nxS T cu) cu d (nds (nxS T cu) 0).length)) := by
      rw [← q5]
      exact l_cursor (what := 5) hn H1 hc (by decide)
    have w5 := wi_pos H1.1 cu d (by rw [cx]; exact hx) (by rw [cy]; exact hy)
    have w6 : wiN (nxS T cu) cu d (nds (nxS T cu) 0).length ≤ 24 := Nat.le_trans (cB_le _ _) (nds_len H1.1 0)
    have sub : nI (cB (herB S) 24) - nI r - 1 = nI (cB (herB S) 24 - r - 1) := by
      rw [pk_sub (by omega), show (1 : Int32) = nI 1 from rfl, pk_sub (by omega)]
    refine ⟨(w1, m ||| 2 ^ i), ?_, Nat.or_lt_two_pow hm' (Nat.pow_lt_pow_right (by decide) b1), fun j hj => ?_, nxS T cu, pshP c T P, min (c + 1) 4, H1, b7⟩
    · show m_L_isGone_p58 n (t + 1) w h (nI cu) (nI x) (nI y) (nI (cB (herB S) 24)) 1 (nI m) (nI r) = m_L_isGone_p58 n t w1 h (nI cu) (nI x) (nI y) (nI (cB (herB S) 24)) 1 (nI (m ||| 2 ^ i)) (nI (r + 1))
      rw [m_L_isGone_p58, if_neg (nI_ge hr (by omega)), if_neg (by decide), n1, Option.bind_some, if_neg (nI_pos (by omega)), n2, Option.bind_some, if_pos rfl, bz, if_pos rfl, n3, Option.bind_some, if_pos rfl, n4, Option.bind_some, if_pos sub.symm, n5, Option.bind_some, if_neg (show ¬ nI (wiN (nxS T cu) cu d (nds (nxS T cu) 0).length) < 1 from nI_nlt (b := 1) w5 (by omega)), one24 i b1, n_or, nI_1]
    · show (m ||| 2 ^ i).testBit j = ltB S x y (loR S x y (r + 1)) j
      rw [Nat.testBit_or, hb' j hj, Nat.testBit_two_pow, loR, b3]
      unfold ltB
      by_cases z : i = j
      · subst z
        rw [b2, decide_eq_true (show i = i from rfl), decide_eq_true (Nat.lt_succ_self _), Bool.or_true]
        rfl
      · rw [decide_eq_false z, Bool.or_false]
        have hne : pN S x y j ≠ pN S x y i := fun q => z (pN_inj hj b1 q).symm
        cases hh : herB S j with
        | false => rfl
        | true =>
          rw [Bool.true_and, Bool.true_and]
          by_cases g1 : pN S x y j < loR S x y r
          · rw [decide_eq_true g1, decide_eq_true (by omega)]
          · have g2 : pN S x y i ≤ pN S x y j := by
              rcases mA_c S x y (loR S x y r) 24 with ⟨a, -⟩ | ⟨i', a1, a2, a3, a4, a5⟩
              · rw [loR_sn, b3] at a
                omega
              · have := a5 j hj hh (by omega)
                rw [loR_sn, b3] at a4
                omega
            rw [decide_eq_false g1, decide_eq_false (by omega)]) (by
    rintro t ⟨w, m⟩ ⟨hm, hbit, T, P, c, H, hT⟩
    obtain ⟨w1, e1, H1⟩ := x_next hn H hc
    have z : nxM T cu = 0 := by
      rw [hT.nx hx hy, ← loR_sn, loR_end]
    have en : nxS T cu = T := by
      unfold nxS
      rw [z, if_pos rfl]
    rw [en] at H1
    have n1 : m_LX_next n w h (nI cu) = some (-1, w1) := by
      rw [m_LX_next, H.2.1.ck, Option.bind_some, e1, z]
      rfl
    obtain ⟨cx, cy⟩ := hT.cx hx hy
    have lt1 := loR_c (S := S) (x := x) (y := y) _ (Nat.le_refl _)
    have af := lt_af (S := S) (x := x) (y := y) (lo := loR S x y (cB (herB S) 24)) 24
    have q4 : cuV T cu 4 = 0 := by
      show nI (cB (afB T (cxN T cu) (cyN T cu) (loC T cu)) 24) = 0
      rw [cx, cy, hT.2.2.2.2, hT.2.1.af, show cB (afB S x y (loR S x y (cB (herB S) 24))) 24 = 0 by omega]
      rfl
    have n4 : m_LX_cursor n w1 h (nI cu) 4 = some 0 := by
      rw [← q4]
      exact l_cursor (what := 4) hn H1 hc (by decide)
    obtain ⟨w2, e2, H2⟩ := x_undo hn H1 (by omega)
    have hc4 := H.le4
    have n5 : m_LX_undo n w1 h = some (nI (min (c + 1) 4 - 1), w2) := by rw [m_LX_undo, H1.2.1.ck, Option.bind_some, e2]
    refine ⟨(1, w2), ?_, _, _, _, rfl, H2⟩
    show m_L_isGone_p58 n (t + 1) w h (nI cu) (nI x) (nI y) (nI (cB (herB S) 24)) 1 (nI m) (nI (cB (herB S) 24)) = _
    rw [m_L_isGone_p58, if_pos (Int32.le_refl _), m_L_isGone_p167, if_neg (by decide), n1, Option.bind_some, if_pos rfl, n4, Option.bind_some, if_pos rfl, n5, Option.bind_some, if_neg (nI_pos (by omega))]) (cB (herB S) 24) 0 n (w, 0) (by omega) (by omega) ⟨show (0 : Nat) < 2 ^ 24 by decide, fun j hj => by
      show (0 : Nat).testBit j = _
      rw [Nat.zero_testBit]
      unfold ltB loR
      rw [decide_eq_false (Nat.not_lt_zero _), Bool.and_false], T, P, c, H, hT⟩
  obtain ⟨v1, v2⟩ := v
  have hv1 : v1 = 1 := hv
  subst hv1
  exact ⟨v2, S', P', c', e, HK⟩
theorem l_isGone (hn : 600 ≤ n) (H : Kc w h S P c L B) {cu x y : Nat} (hc : cu < 4) (hx : x < 64) (hy : y < 64) :
    ∃ w' S' P' c', m_L_isGone n w h (nI cu) (nI x) (nI y) = some (1, w') ∧ Kc w' h S' P' c' L B := by
  obtain ⟨w1, e1, H1⟩ := x_open hn H hc hx hy
  have same : SameP S (opnS S cu (nI x) (nI y)) := opn_same
  have f0 : opnS S cu (nI x) (nI y) (120 + 5 * cu) = nI x := by
    unfold opnS upd
    rw [if_neg (by omega), if_neg (by omega), if_pos rfl]
  have f1 : opnS S cu (nI x) (nI y) (121 + 5 * cu) = nI y := by
    unfold opnS upd
    rw [if_neg (by omega), if_pos rfl]
  have f2 : opnS S cu (nI x) (nI y) (122 + 5 * cu) = 0 := by
    unfold opnS upd
    rw [if_pos rfl]
  have hT : CuS S (opnS S cu (nI x) (nI y)) cu x y 0 := by
    refine ⟨H1.1, same, f0, f1, ?_⟩
    unfold loC
    rw [if_pos f2]
    rfl
  obtain ⟨cx, cy⟩ := hT.cx hx hy
  have o1 : m_LX_open n w h (nI cu) (nI x) (nI y) = some (nI (cB (herB S) 24), w1) := by rw [m_LX_open, H.2.1.ck, Option.bind_some, e1]
  have o2 : m_LX_within n w1 h 0 0 63 63 = some (nI (cB (herB S) 24)) := by rw [l_within hn H1, same.her]
  have q4 : cuV (opnS S cu (nI x) (nI y)) cu 4 = nI (cB (herB S) 24) := by
    show nI (cB (afB (opnS S cu (nI x) (nI y)) (cxN (opnS S cu (nI x) (nI y)) cu) (cyN (opnS S cu (nI x) (nI y)) cu) (loC (opnS S cu (nI x) (nI y)) cu)) 24) = _
    have af := lt_af (S := S) (x := x) (y := y) (lo := loR S x y 0) 24
    have lt := loR_c (S := S) (x := x) (y := y) 0 (Nat.zero_le _)
    rw [cx, cy, hT.2.2.2.2, same.af]
    exact congrArg nI (by omega)
  have o3 : m_LX_cursor n w1 h (nI cu) 4 = some (nI (cB (herB S) 24)) := by
    rw [← q4]
    exact l_cursor (what := 4) hn H1 hc (by decide)
  have q2 : cuV (opnS S cu (nI x) (nI y)) cu 2 = -1 := by
    show (if opnS S cu (nI x) (nI y) (122 + 5 * cu) = 0 then (-1 : Int32) else opnS S cu (nI x) (nI y) (123 + 5 * cu)) = -1
    rw [if_pos f2]
  have o4 : m_LX_cursor n w1 h (nI cu) 2 = some (-1) := by
    rw [← q2]
    exact l_cursor (what := 2) hn H1 hc (by decide)
  obtain ⟨w2, S', P', c', e2, H2⟩ := ig_loop hn hc hx hy H1 hT
  refine ⟨w2, S', P', c', ?_, H2⟩
  rw [m_L_isGone, o1, Option.bind_some, o2, Option.bind_some, if_pos rfl, o3, Option.bind_some, if_pos rfl, o4, Option.bind_some, if_pos rfl, e2]
end KG
