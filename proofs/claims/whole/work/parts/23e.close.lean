/-! closest, type, clearScript -/
def cde (S : Nat → Int32) (i j : Nat) : Nat := pN S (pxN S j) (pyN S j) i * 32 + j
def stC (S : Nat → Int32) (i j m : Nat) : Nat := if herB S j = true ∧ (m = 0 ∨ cde S i j + 1 < m) then cde S i j + 1 else m
def inC (S : Nat → Int32) (i m : Nat) : Nat → Nat
  | 0 => m
  | j + 1 => if i < j ∧ herB S i = true then stC S i j (inC S i m j) else inC S i m j
def ouC (S : Nat → Int32) : Nat → Nat
  | 0 => 0
  | i + 1 => inC S i (ouC S i) 24
theorem inC_lo {S : Nat → Int32} {i m : Nat} : ∀ {j : Nat}, j ≤ i + 1 → inC S i m j = m
  | 0, _ => rfl
  | j + 1, h => by
    unfold inC
    rw [if_neg (fun q => by omega), inC_lo (by omega)]
theorem inC_no {S : Nat → Int32} {i m : Nat} (h : herB S i = false) : ∀ j, inC S i m j = m
  | 0 => rfl
  | j + 1 => by
    unfold inC
    rw [if_neg (fun q => by rw [h] at q; exact absurd q.2 (by decide)), inC_no h j]
theorem WFp.px {S : Nat → Int32} {j : Nat} (h : WFp S j) : pxN S j < 64 ∧ S (5 * j + 1) = nI (pxN S j) ∧ pyN S j < 64 ∧ S (5 * j + 2) = nI (pyN S j) := ⟨h.2.1.cl.1, h.2.1.cl.2, h.2.2.1.cl.1, h.2.2.1.cl.2⟩
theorem cde_lt {S : Nat → Int32} (hw : WF S) {i j : Nat} (hi : i < 24) (hj : j < 24) : cde S i j < 10000000 := by
  obtain ⟨h1, -, h2, -⟩ := (hw.1 j hj).px
  have := pN_lt hw hi h1 h2
  unfold cde
  omega
theorem inC_lt {S : Nat → Int32} (hw : WF S) {i m : Nat} (hi : i < 24) (hm : m < 10000001) : ∀ j, j ≤ 24 → inC S i m j < 10000001
  | 0, _ => hm
  | j + 1, h => by
    have h1 := inC_lt hw hi hm j (by omega)
    have h2 := cde_lt hw hi (show j < 24 by omega)
    unfold inC
    split
    · unfold stC
      split <;> omega
    · exact h1
theorem ouC_lt {S : Nat → Int32} (hw : WF S) : ∀ i, i ≤ 24 → ouC S i < 10000001
  | 0, _ => Nat.zero_lt_succ _
  | i + 1, h => inC_lt hw (by omega) (ouC_lt hw i (by omega)) 24 (Nat.le_refl _)
theorem inC_low (S : Nat → Int32) {i m : Nat} (hi : i < 24) (h0 : m = 0 ∨ (m - 1) % 1024 < i * 32) : ∀ j, j ≤ 24 → inC S i m j = 0 ∨ (inC S i m j - 1) % 1024 < i * 32 + j
  | 0, _ => by
    show m = 0 ∨ (m - 1) % 1024 < i * 32 + 0
    omega
  | j + 1, h => by
    have h1 := inC_low S hi h0 j (by omega)
    unfold inC
    split
    · unfold stC
      split
      · right
        unfold cde pN
        omega
      · omega
    · omega
theorem ouC_low (S : Nat → Int32) : ∀ i, i ≤ 24 → ouC S i = 0 ∨ (ouC S i - 1) % 1024 < i * 32
  | 0, _ => Or.inl rfl
  | i + 1, h => by
    have h1 := inC_low S (show i < 24 by omega) (ouC_low S i (by omega)) 24 (Nat.le_refl _)
    show inC S i (ouC S i) 24 = 0 ∨ (inC S i (ouC S i) 24 - 1) % 1024 < (i + 1) * 32
    omega
def clV (m what : Nat) : Int32 := if m = 0 then -1 else if what = 0 then nI ((m - 1) / 1024) else if what = 1 then nI ((m - 1) / 32 % 32) else nI ((m - 1) % 32)
section CL
variable {n h c L : Nat} {w : Wd} {S : Nat → Int32} {P : Nat → Nat → Int32} {B : Nat → Int32} {r : Int32} {K : Nat → Nat} {xs : Nat → Int32} {i : Int32}
theorem m_couple {a : Nat} (hn : 60 ≤ n) (hs : StW w a S) (hw : WF S) : m_X4_closestCouple n w a = some (laI (ouC S 24)) := by
  have hs0 := hs
  obtain ⟨F, t0, f0, fR⟩ := hs
  unfold m_X4_closestCouple
  obtain ⟨v, e, rfl⟩ := lp (σ := Unit) (R := Int32) (fun t i _ => m_X4_closestCouple_p4 n t w a (laI (ouC S i)) (nI i)) (fun _ _ => True) (fun v => v = laI (ouC S 24)) 24 (by
    rintro t i ⟨⟩ hi -
    left
    refine ⟨(), ?_, trivial⟩
    rw [m_X4_closestCouple_p4, if_neg (show ¬ (24 : Int32) ≤ nI i from nI_ge hi (by decide)), nI_1]
    obtain ⟨u, e, -⟩ := lpk (σ := Unit) (τ := Unit) (R := Option Int32) (fun t' j _ => m_X4_closestCouple_p14 n (fun w b0 b1 b2 => m_X4_closestCouple_p4 n t w b0 b1 b2) t' w a (laI (inC S i (ouC S i) j)) (nI i) (nI j)) (fun _ => m_X4_closestCouple_p4 n t w a (laI (ouC S (i + 1))) (nI (i + 1))) (fun j _ => i < j) (fun _ => True) 24 (by
      rintro t' j ⟨⟩ hj hij
      by_cases z : S (5 * i) = 0
      · right
        refine ⟨(), ?_, trivial⟩
        rw [m_X4_closestCouple_p14, f0.q0, Option.bind_some, f0.r0 hi, Option.bind_some, fR.1 0 i (by decide) hi, if_pos (show S (5 * i + 0) = 0 from z), inC_no (her0 z), nI_1, show ouC S (i + 1) = ouC S i from inC_no (her0 z) 24]
      · left
        refine ⟨(), ?_, Nat.lt_succ_of_lt hij⟩
        obtain ⟨x1, x2, y1, y2⟩ := (hw.1 j hj).px
        have hm := inC_lt hw hi (ouC_lt hw i (by omega)) j (by omega)
        have hcd := cde_lt hw hi hj
        have en : laI (cde S i j + 1) = nI (cde S i j) := by
          unfold laI
          rw [if_neg (by omega), Nat.add_sub_cancel]
        rw [m_X4_closestCouple_p14, f0.q0, Option.bind_some, f0.r0 hi, Option.bind_some, fR.1 0 i (by decide) hi, if_neg (show ¬ S (5 * i + 0) = 0 from z), if_neg (show ¬ (24 : Int32) ≤ nI j from nI_ge hj (by decide)), f0.q1, Option.bind_some, f0.r1 hj, Option.bind_some, f0.q2, Option.bind_some, f0.r2 hj, Option.bind_some, f0.ck, Option.bind_some, fR.1 1 j (by decide) hj, fR.1 2 j (by decide) hj, x2, y2, m_pairOf hs0 hw hi x1 y1, Option.bind_some, Option.bind_some, f0.r0 hj, Option.bind_some, fR.1 0 j (by decide) hj, show (32 : Int32) = nI 32 from rfl, pk_mul, nI_add, show pN S (pxN S j) (pyN S j) i * 32 + j = cde S i j from rfl]
        show _ = m_X4_closestCouple_p14 n _ t' w a (laI (if i < j ∧ herB S i = true then stC S i j (inC S i (ouC S i) j) else inC S i (ouC S i) j)) (nI i) (nI (j + 1))
        rw [if_pos (show i < j ∧ herB S i = true from ⟨hij, her1 z⟩)]
        unfold stC
        by_cases z2 : S (5 * j) = 0
        · rw [if_pos (show S (5 * j + 0) = 0 from z2), if_neg (fun q => by rw [her0 z2] at q; exact absurd q.1 (by decide)), nI_1]
        · rw [if_neg (show ¬ S (5 * j + 0) = 0 from z2)]
          by_cases g2 : inC S i (ouC S i) j = 0
          · rw [if_pos ((laI_m1 (by omega)).mpr g2), if_pos (show herB S j = true ∧ _ from ⟨her1 z2, Or.inl g2⟩), en, nI_1]
          · rw [if_neg (fun q => g2 ((laI_m1 (by omega)).mp q))]
            have em : laI (inC S i (ouC S i) j) = nI (inC S i (ouC S i) j - 1) := if_neg g2
            by_cases g3 : cde S i j + 1 < inC S i (ouC S i) j
            · rw [em, if_neg (nI_ge (show cde S i j < inC S i (ouC S i) j - 1 by omega) (by omega)), if_pos (show herB S j = true ∧ _ from ⟨her1 z2, Or.inr g3⟩), en, nI_1]
            · rw [em, if_pos (nI_le (show inC S i (ouC S i) j - 1 ≤ cde S i j by omega) (by omega)), if_neg (fun q => by omega), em, nI_1]) (by
      rintro t' ⟨⟩ -
      refine ⟨(), ?_, trivial⟩
      rw [m_X4_closestCouple_p14, f0.q0, Option.bind_some, f0.r0 hi, Option.bind_some, fR.1 0 i (by decide) hi]
      by_cases z : S (5 * i) = 0
      · rw [if_pos (show S (5 * i + 0) = 0 from z), nI_1]
        rfl
      · rw [if_neg (show ¬ S (5 * i + 0) = 0 from z), if_pos (by decide), nI_1]
        rfl) (24 - (i + 1)) (i + 1) n () (by omega) (by omega) (Nat.lt_succ_self i)
    rw [inC_lo (Nat.le_refl _)] at e
    exact e) (by
    rintro t ⟨⟩ -
    exact ⟨_, by rw [m_X4_closestCouple_p4, if_pos (by decide)], rfl⟩) 24 0 n () rfl (by omega) trivial
  exact e
theorem k_close {b what : Nat} {I : Nat → Int32} {J : Nat → Int64} {A : Rw} (hn : 60 ≤ n) (m : MoC w b I J A) (hr : Row A S) (hw : WF S) (hwh : what < 3) : m_X7_tellClosest n w b (nI what) = some (clV (ouC S 24) what) := by
  unfold m_X7_tellClosest
  obtain ⟨v, e, rfl⟩ := lp (σ := Unit) (R := Int32) (fun t i _ => m_X7_tellClosest_p10 n t w b (nI what) (clV (ouC S i) 0) (clV (ouC S i) 1) (clV (ouC S i) 2) (nI i)) (fun _ _ => True) (fun v => v = clV (ouC S 24) what) 24 (by
    rintro t i ⟨⟩ hi -
    left
    refine ⟨(), ?_, trivial⟩
    rw [m_X7_tellClosest_p10, if_neg (show ¬ (24 : Int32) ≤ nI i from nI_ge hi (by decide)), nI_1]
    obtain ⟨u, e, -⟩ := lpk (σ := Unit) (τ := Unit) (R := Option Int32) (fun t' j _ => m_X7_tellClosest_p23 n (fun w b0 b1 b2 b3 b4 b5 => m_X7_tellClosest_p10 n t w b0 b1 b2 b3 b4 b5) t' w b (nI what) (clV (inC S i (ouC S i) j) 0) (clV (inC S i (ouC S i) j) 1) (clV (inC S i (ouC S i) j) 2) (nI i) (nI j)) (fun _ => m_X7_tellClosest_p10 n t w b (nI what) (clV (ouC S (i + 1)) 0) (clV (ouC S (i + 1)) 1) (clV (ouC S (i + 1)) 2) (nI (i + 1))) (fun j _ => i < j) (fun _ => True) 24 (by
      rintro t' j ⟨⟩ hj hij
      left
      refine ⟨(), ?_, Nat.lt_succ_of_lt hij⟩
      obtain ⟨x1, x2, y1, y2⟩ := (hw.1 j hj).px
      have hm := inC_lt hw hi (ouC_lt hw i (by omega)) j (by omega)
      have hlow := inC_low S hi (ouC_low S i (by omega)) j (by omega)
      have hd := (dN_ok hw hi x1 y1).2
      have ec : cde S i j = dN S i (pxN S j) (pyN S j) * 1024 + i * 32 + j := by
        unfold cde pN
        omega
      have s1 : (5 : Int32) * nI j + 1 = nI (5 * j + 1) := e5k j 1
      have s2 : (5 : Int32) * nI j + 2 = nI (5 * j + 2) := e5k j 2
      rw [m_X7_tellClosest_p23, if_neg (show ¬ (24 : Int32) ≤ nI j from nI_ge hj (by decide)), s1, s2, m.g0, Option.bind_some, m.r0 (by omega), Option.bind_some, Option.bind_some, m.r0 (by omega), Option.bind_some, m.c, Option.bind_some, hr _ (by omega), hr _ (by omega), x2, y2, k_far m hr hw hi x1 y1, Option.bind_some, Option.bind_some, m_there m hr hw hi, Option.bind_some]
      show _ = m_X7_tellClosest_p23 n _ t' w b (nI what) (clV (if i < j ∧ herB S i = true then stC S i j (inC S i (ouC S i) j) else inC S i (ouC S i) j) 0) (clV (if i < j ∧ herB S i = true then stC S i j (inC S i (ouC S i) j) else inC S i (ouC S i) j) 1) (clV (if i < j ∧ herB S i = true then stC S i j (inC S i (ouC S i) j) else inC S i (ouC S i) j) 2) (nI i) (nI (j + 1))
      by_cases z : S (5 * i) = 0
      · rw [if_pos z, if_neg (show ¬ (i < j ∧ herB S i = true) from fun q => by rw [her0 z] at q; exact absurd q.2 (by decide)), nI_1]
      · rw [if_neg z, if_pos (show i < j ∧ herB S i = true from ⟨hij, her1 z⟩), Option.bind_some, m_there m hr hw hj, Option.bind_some]
        unfold stC
        by_cases z2 : S (5 * j) = 0
        · rw [if_pos z2, if_neg (show ¬ (herB S j = true ∧ _) from fun q => by rw [her0 z2] at q; exact absurd q.1 (by decide)), nI_1]
        · have en0 : clV (cde S i j + 1) 0 = nI (dN S i (pxN S j) (pyN S j)) := by
            unfold clV
            rw [if_neg (by omega), if_pos rfl]
            exact congrArg nI (by omega)
          have en1 : clV (cde S i j + 1) 1 = nI i := by
            unfold clV
            rw [if_neg (by omega), if_neg (by decide), if_pos rfl]
            exact congrArg nI (by omega)
          have en2 : clV (cde S i j + 1) 2 = nI j := by
            unfold clV
            rw [if_neg (by omega), if_neg (by decide), if_neg (by decide)]
            exact congrArg nI (by omega)
          rw [if_neg z2]
          generalize inC S i (ouC S i) j = mm at hm hlow ⊢
          by_cases g2 : mm = 0
          · rw [show clV mm 0 = -1 from if_pos g2, if_pos rfl, if_pos (show herB S j = true ∧ _ from ⟨her1 z2, Or.inl g2⟩), en0, en1, en2, nI_1]
          · have em : clV mm 0 = nI ((mm - 1) / 1024) := by
              unfold clV
              rw [if_neg g2, if_pos rfl]
            by_cases g3 : cde S i j + 1 < mm
            · rw [if_pos (show herB S j = true ∧ _ from ⟨her1 z2, Or.inr g3⟩), em, if_neg (nI_m1 (by omega)), if_neg (nI_ge (show dN S i (pxN S j) (pyN S j) < (mm - 1) / 1024 by omega) (by omega)), en0, en1, en2, nI_1]
            · rw [if_neg (show ¬ (herB S j = true ∧ _) from fun q => by omega), em, if_neg (nI_m1 (by omega)), if_pos (nI_le (show (mm - 1) / 1024 ≤ dN S i (pxN S j) (pyN S j) by omega) (by omega)), nI_1]) (by
      rintro t' ⟨⟩ -
      refine ⟨(), ?_, trivial⟩
      rw [m_X7_tellClosest_p23, if_pos (by decide), nI_1]
      rfl) (24 - (i + 1)) (i + 1) n () (by omega) (by omega) (Nat.lt_succ_self i)
    rw [inC_lo (Nat.le_refl _)] at e
    exact e) (by
    rintro t ⟨⟩ -
    refine ⟨_, ?_, rfl⟩
    rw [m_X7_tellClosest_p10, if_pos (by decide), m_X7_tellClosest_p111]
    rcases (show what = 0 ∨ what = 1 ∨ what = 2 by omega) with rfl | rfl | rfl
    · rw [if_pos (show nI 0 = 0 from rfl)]
    · rw [if_neg (show ¬ nI 1 = 0 by decide), if_pos (show nI 1 = 1 from rfl)]
    · rw [if_neg (show ¬ nI 2 = 0 by decide), if_neg (show ¬ nI 2 = 1 by decide)]) 24 0 n () rfl (by omega) trivial
  exact e
theorem m_close6 {what : Nat} (hn : 60 ≤ n) (g : ClI w h S P c) (hw : WF S) (hwh : what < 3) : m_X6_closest n w h (nI what) = some (clV (ouC S 24) what) := by
  have hl := ouC_lt hw 24 (Nat.le_refl _)
  rw [m_X6_closest, show m_X6_inside (nI what) 0 2 = 1 from ins_1 (m := 2) (by decide) (by omega), if_neg ne1.1, throw0, Option.bind_some, g.n0, Option.bind_some, g.ck3, Option.bind_some, m_couple hn g.1 hw, Option.bind_some]
  unfold clV
  by_cases z : ouC S 24 = 0
  · rw [if_pos ((laI_m1 (by omega)).mpr z), if_pos z]
  · have e1 : laI (ouC S 24) = nI (ouC S 24 - 1) := if_neg z
    rw [if_neg (fun q => z ((laI_m1 (by omega)).mp q)), if_neg z, e1]
    rcases (show what = 0 ∨ what = 1 ∨ what = 2 by omega) with rfl | rfl | rfl
    · rw [if_pos (show nI 0 = 0 from rfl), if_pos rfl, show (1024 : Int32) = nI 1024 from rfl, pk_div (by omega) (by decide) (by decide)]
    · rw [if_neg (show ¬ nI 1 = 0 by decide), if_pos (show nI 1 = 1 from rfl), if_neg (by decide), if_pos rfl, show (32 : Int32) = nI 32 from rfl, pk_div (by omega) (by decide) (by decide), jrm_nI (by omega) (by decide) (by decide)]
    · rw [if_neg (show ¬ nI 2 = 0 by decide), if_neg (show ¬ nI 2 = 1 by decide), if_neg (by decide), if_neg (by decide), show (32 : Int32) = nI 32 from rfl, jrm_nI (by omega) (by decide) (by decide)]
theorem B_close (hn : 600 ≤ n) (H : InvK h w) : ∃ w', mc_18 K n w h (h + 87) (h + 97) xs i = some w' ∧ InvK h w' := by
  obtain ⟨S, P, c, L, B, r, H⟩ := H
  generalize ea : xs (Int32.toNatClampNeg (i + 1)) = a
  show ∃ w', mcF (fun w1 => m_X7_closest n w1 (h + 87) (xs (Int32.toNatClampNeg (i + 1)))) (m_L_closest n w h (xs (Int32.toNatClampNeg (i + 1))) (h + 97)) n (h + 87) (h + 97) = some w' ∧ _
  rw [ea]
  have H0 := H
  obtain ⟨hw, g, sc, M, o⟩ := H
  rcases ins_c a (m := 2) (by decide) with h1 | ⟨h1, wh, hwh, rfl⟩
  · obtain ⟨w3, f3, m3, q3⟩ := k_no (n := n) (k := 1) pos1.1 M
    refine case_no (v := 0) H0 ne1.1 ?_ ⟨w3, ?_, m3, q3⟩
    · rw [m_L_closest, g.ck, Option.bind_some, q_X6_closest, if_pos (show m_X6_inside a 0 2 = 0 from h1), Option.bind_some, if_neg ne1.2.1, if_pos rfl]
    · rw [m_X7_closest, if_pos (show m_X7_in a 0 2 = 0 from h1), M.ck, Option.bind_some, f3, Option.bind_some, if_neg ne1.1]
  · have h1' : ¬ m_X6_inside (nI wh) 0 2 = 0 := fun q => absurd (h1.symm.trans q) (by decide)
    refine case_ok H0 (w1 := w) (v := clV (ouC S 24) wh) ?_ hw g sc (fun _ _ => rfl) fun v2 m2 => ?_
    · rw [m_L_closest, g.ck, Option.bind_some, q_X6_closest, if_neg h1', Option.bind_some, if_pos rfl, m_close6 (by omega) g hw (by omega), Option.bind_some]
    · obtain ⟨I, J, A, m⟩ := m2
      obtain ⟨u1, f1, m1, q1⟩ := k_ref0 (n := n) m
      refine ⟨u1, ?_, ⟨_, _, _, m1⟩, q1⟩
      rw [m_X7_closest, if_neg (show ¬ m_X7_in (nI wh) 0 2 = 0 from h1'), m.ck, Option.bind_some, f1, Option.bind_some, if_pos rfl, m1.ck, Option.bind_some, k_close (by omega) m1.1 m1.2.1 hw (by omega), Option.bind_some]
/-! type, clearScript -/
theorem m_append {a : Nat} (hs : ScC w a L B) (hL : L < 120) (x : Int32) : ∃ w', m_X2_append n w a x = some w' ∧ ScC w' a (L + 1) (upd B L x) ∧ ∀ q, (q < a ∨ a + 2 < q) → w' q = w q := by
  obtain ⟨⟨wd, po, fa, h1⟩, ⟨f, h2, h3⟩, g, h4⟩ := hs
  generalize hw : wup (wup w (a + 1) (.inl (0, 120, .inl (upd f L x)))) a (.inr (2, [.ref (a + 1), .int (nI (L + 1)), .int wd, .ref (a + 2), .int po, .int fa])) = w'
  have o : ∀ q, q ≠ a → q ≠ a + 1 → w' q = w q := fun q hq hq1 => by rw [← hw, wup_ne hq, wup_ne hq1]
  have h1' : wup w (a + 1) (.inl (0, 120, .inl (upd f L x))) a = some (.inr (2, [.ref (a + 1), .int (nI L), .int wd, .ref (a + 2), .int po, .int fa])) := by rw [wup_ne (by omega)]; exact h1
  refine ⟨w', ?_, ⟨⟨wd, po, fa, by rw [← hw, wup_self]⟩, ⟨upd f L x, by rw [← hw, wup_ne (by omega), wup_self], fun k hk => ?_⟩, g, by rw [o _ (by omega) (by omega)]; exact h4⟩, fun q hq => o q (by omega) (by omega)⟩
  · rw [m_X2_append, gfI_at h1 rfl, Option.bind_some, if_neg (show ¬ (120 : Int32) ≤ nI L from nI_ge hL (by decide)), gfR_at h1 rfl, Option.bind_some, Option.bind_some, asI_at h2 hL (by decide), Option.bind_some, gfI_at h1' rfl, Option.bind_some, pfV_at h1' (Nat.le_of_ble_eq_true rfl), Option.bind_some, nI_1]
    exact congrArg some hw
  · by_cases e : k = L
    · subst e
      rw [pk_us, pk_us]
    · rw [pk_un e, pk_un e, h3 k (by omega)]
theorem ScC.len {a : Nat} (hs : ScC w a L B) : gfI 2 1 w a = some (nI L) := by
  obtain ⟨⟨wd, po, fa, h1⟩, -⟩ := hs
  exact gfI_at h1 rfl
theorem ScC.ck {a : Nat} (hs : ScC w a L B) : chk 2 w a = some () := by
  obtain ⟨⟨wd, po, fa, h1⟩, -⟩ := hs
  exact chk_at h1
theorem ClJ.frS {w' : Wd} {S' : Nat → Int32} (g : ClJ w h S S' P c) (hq : ∀ q, (q < h + 48 ∨ h + 48 + 2 < q) → w' q = w q) : ClJ w' h S S' P c := g.frame fun q _ _ d => hq q (by omega)
theorem B_type (hn : 600 ≤ n) (H : InvK h w) : ∃ w', mc_19 K n w h (h + 87) (h + 97) xs i = some w' ∧ InvK h w' := by
  obtain ⟨S, P, c, L, B, r, H⟩ := H
  generalize ea : xs (Int32.toNatClampNeg (i + 1)) = a
  show ∃ w', mcF (fun w1 => m_X7_type n w1 (h + 87) (xs (Int32.toNatClampNeg (i + 1)))) (m_L_type n w h (xs (Int32.toNatClampNeg (i + 1))) (h + 97)) n (h + 87) (h + 97) = some w' ∧ _
  rw [ea]
  have H0 := H
  obtain ⟨hw, g, sc, M, o⟩ := H
  by_cases h1 : m_X6_inside a 0 127 = 0
  · obtain ⟨w3, f3, m3, q3⟩ := k_no (n := n) (k := 1) pos1.1 M
    refine case_no (v := 0) H0 ne1.1 ?_ ⟨w3, ?_, m3, q3⟩
    · rw [m_L_type, g.ck, Option.bind_some, q_X6_type, g.ck, Option.bind_some, m_X6_refusalOfByte, if_pos h1, Option.bind_some, Option.bind_some, if_neg ne1.2.1, if_pos rfl]
    · rw [m_X7_type, if_pos (show m_X7_in a 0 127 = 0 from h1), M.ck, Option.bind_some, f3, Option.bind_some, if_neg ne1.1]
  · obtain ⟨I, J, A, m⟩ := M
    obtain ⟨l6, hL⟩ := m.2.2.2.2.1
    have i6 : gfI 6 6 w (h + 87) = some (nI L) := by rw [m.1.i6, l6]
    by_cases h2 : L = 120
    · subst h2
      obtain ⟨w3, f3, m3, q3⟩ := k_no (n := n) (k := 2) pos1.2.1 ⟨_, _, _, m⟩
      refine case_no (v := 0) H0 ne1.2.1 ?_ ⟨w3, ?_, m3, q3⟩
      · rw [m_L_type, g.ck, Option.bind_some, q_X6_type, g.ck, Option.bind_some, m_X6_refusalOfByte, if_neg h1, g.n2, Option.bind_some, sc.len, Option.bind_some, if_pos (show (120 : Int32) ≤ nI 120 by decide), Option.bind_some, Option.bind_some, if_neg ne1.2.2.1, if_neg ne1.2.2.2.2.2, if_pos rfl]
      · rw [m_X7_type, if_neg (show ¬ m_X7_in a 0 127 = 0 from h1), i6, Option.bind_some, if_pos (show nI 120 = 120 from rfl), m.ck, Option.bind_some, f3, Option.bind_some, if_neg ne1.1]
    · have hL2 : L < 120 := by omega
      have hr : m_X6_refusalOfByte n w h a = some 0 := by
        rw [m_X6_refusalOfByte, if_neg h1, g.n2, Option.bind_some, sc.len, Option.bind_some, if_neg (show ¬ (120 : Int32) ≤ nI L from nI_ge hL2 (by decide))]
      obtain ⟨w1, e1, s1, q1⟩ := m_append (n := n) sc hL2 a
      have g1 := g.frS q1
      refine case_ok H0 (w1 := w1) (v := nI (L + 1)) ?_ hw g1 s1 (fun z hz => q1 z (by omega)) fun v2 m2 => ?_
      · rw [m_L_type, g.ck, Option.bind_some, q_X6_type, g.ck, Option.bind_some, hr, Option.bind_some, Option.bind_some, if_pos rfl, m_X6_type, g.ck, Option.bind_some, hr, Option.bind_some, throw0, Option.bind_some, g.n2, Option.bind_some, sc.ck, Option.bind_some, e1, Option.bind_some, g1.n2, Option.bind_some, s1.len, Option.bind_some, Option.bind_some]
      · obtain ⟨I, J, A, m⟩ := m2
        have i6 : gfI 6 6 v2 (h + 87) = some (nI L) := by rw [m.1.i6, m.2.2.2.2.1.1]
        obtain ⟨u1, f1, m1, z1⟩ := k_ref0 (n := n) m
        have j6 : gfI 6 6 u1 (h + 87) = some (nI L) := by rw [m1.1.i6, m1.2.2.2.2.1.1]
        obtain ⟨u2, f2, m2, z2⟩ := m1.1.w5 a (k := L) hL2
        have k6 : gfI 6 6 u2 (h + 87) = some (nI L) := by rw [m2.i6, m1.2.2.2.2.1.1]
        obtain ⟨u3, f3, m3, z3⟩ := m2.p6 (nI L + 1)
        have g5 := m1.1.g5
        obtain ⟨-, b2, b3, b4, b5, b6, b7⟩ := m1
        refine ⟨u3, ?_, ⟨_, _, _, m3, fun k hk => (setF_row (by decide)).trans (b2 k hk), ⟨by rw [setI_ne (by decide)]; exact b3.1, b3.2⟩, fun j k hj hk => (setF_row (by decide)).trans (b4 j k hj hk), ⟨by rw [setI_self, nI_1], by omega⟩, fun k hk => ?_, by rw [setI_ne (by decide)]; exact b7⟩, fun z hz => (z3 z hz).trans ((z2 z hz).trans (z1 z hz))⟩
        · rw [m_X7_type, if_neg (show ¬ m_X7_in a 0 127 = 0 from h1), i6, Option.bind_some, if_neg (show ¬ nI L = 120 from fun q => h2 ((nI_eq (b := 120) (by omega) (by decide)).mp q)), m.ck, Option.bind_some, f1, Option.bind_some, if_pos rfl, g5, Option.bind_some, j6, Option.bind_some, f2, Option.bind_some, k6, Option.bind_some, f3, Option.bind_some, m3.i6, Option.bind_some, setI_self, nI_1]
        · by_cases e : k = L
          · subst e
            rw [setF_self, pk_us]
          · rw [setF_col e, pk_un e]
            exact b6 k (by omega)
theorem B_clear (H : InvK h w) : ∃ w', mc_20 K n w h (h + 87) (h + 97) xs i = some w' ∧ InvK h w' := by
  obtain ⟨S, P, c, L, B, r, H⟩ := H
  have H0 := H
  obtain ⟨hw, g, sc, ⟨I, J, A, m⟩, o⟩ := H
  obtain ⟨⟨wd, po, fa, h1⟩, ⟨f, h2, h3⟩, gn, h4⟩ := sc
  obtain ⟨w1, e1, rfl⟩ : ∃ w1, pfV 2 1 w (h + 48) (.int 0) = some w1 ∧ w1 = wup w (h + 48) (.inr (2, [.ref (h + 48 + 1), .int (nI 0), .int wd, .ref (h + 48 + 2), .int po, .int fa])) := ⟨_, pfV_at h1 (Nat.le_of_ble_eq_true rfl), rfl⟩
  generalize hw1 : wup w (h + 48) (.inr (2, [.ref (h + 48 + 1), .int (nI 0), .int wd, .ref (h + 48 + 2), .int po, .int fa])) = w1 at e1
  have q1 : ∀ q, q ≠ h + 48 → w1 q = w q := fun q hq => by rw [← hw1, wup_ne hq]
  have s1 : ScC w1 (h + 48) 0 B := ⟨⟨wd, po, fa, by rw [← hw1, wup_self]⟩, ⟨f, by rw [q1 _ (by omega)]; exact h2, fun k hk => absurd hk (Nat.not_lt_zero _)⟩, gn, by rw [q1 _ (by omega)]; exact h4⟩
  have g1 : ClI w1 h S P c := g.frS fun q hq => q1 q (by omega)
  have m0 : Mo w1 (h + 87) I J A S P c L B r := m.frame fun q a b => q1 q (by omega)
  obtain ⟨w2, e2, m2, q2⟩ := m0.1.p4 0
  obtain ⟨w3, e3, m3, q3⟩ := m2.p6 0
  obtain ⟨-, b2, b3, b4, b5, b6, b7⟩ := m0
  refine ⟨w3, ?_, case_raw H0 (L' := 0) (B' := B) (r' := 0) hw g1 s1 (fun z hz => q1 z (by omega)) ⟨_, _, _, m3, b2, ⟨by rw [setI_ne (by decide), setI_ne (by decide)]; exact b3.1, b3.2⟩, b4, ⟨setI_self, by omega⟩, fun k hk => absurd hk (Nat.not_lt_zero _), by rw [setI_ne (by decide), setI_self]⟩ fun z hz => (q3 z hz).trans (q2 z hz)⟩
  rw [mc_20, g.ck, Option.bind_some, m_X6_clearScript, g.n2, Option.bind_some, gfI_at h1 rfl, Option.bind_some, Option.bind_some, e1, Option.bind_some, Option.bind_some, chk_at (show w1 (h + 87) = _ by rw [q1 _ (by omega)]; exact m.1.1), Option.bind_some, m_X7_clearScript, e2, Option.bind_some, m2.i6, Option.bind_some, e3, Option.bind_some, Option.bind_some, setI_ne (by decide), b5.1, if_pos rfl]
end CL
