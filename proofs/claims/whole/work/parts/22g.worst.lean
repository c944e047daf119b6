/-! search and worst, both sides -/
def wstN (S : Nat → Int32) (sk : Bool) : Nat → Nat
  | 0 => 0
  | k + 1 => if herB S k then max (wstN S sk k) (fnd S (codeS S k) sk).2 else wstN S sk k
theorem wstN_le {S : Nat → Int32} (hw : WF S) (sk : Bool) : ∀ k, wstN S sk k ≤ 30
  | 0 => Nat.zero_le _
  | k + 1 => by
    have h1 := wstN_le hw sk k
    have h2 := (fnd_ok hw (codeS S k) sk).2
    unfold wstN
    split <;> omega
noncomputable def seV (S : Nat → Int32) (c : Nat) (sk : Bool) (what : Nat) : Int32 := if what = 0 then nI (fnd S c sk).2 else if what = 1 then nI (ixN (nds S 0) (fnd S c sk).1) else m_X3_size (nI (fnd S c sk).1)
section WO
variable {n h c L : Nat} {w : Wd} {S : Nat → Int32} {P : Nat → Nat → Int32} {B : Nat → Int32} {r : Int32} {K : Nat → Nat} {xs : Nat → Int32} {i : Int32}
theorem m_worst6 {sk : Bool} (hn : 60 ≤ n) (g : ClI w h S P c) (hw : WF S) : m_X6_worst n w h (bI sk) = some (nI (wstN S sk 24)) := by
  obtain ⟨F, t0, f0, fR⟩ := g.1
  obtain ⟨fo, e0, fc⟩ := g.fo
  have h0 := nds_len hw 0
  unfold m_X6_worst
  obtain ⟨v, e, rfl⟩ := lp (σ := Unit) (R := Int32) (fun t k _ => m_X6_worst_p4 n t w h (bI sk) (nI (wstN S sk k)) (nI k)) (fun _ _ => True) (fun v => v = nI (wstN S sk 24)) 24 (by
    rintro t k ⟨⟩ hk -
    left
    refine ⟨(), ?_, trivial⟩
    rw [m_X6_worst_p4, if_neg (show ¬ (24 : Int32) ≤ nI k from nI_ge hk (by decide)), g.n0, Option.bind_some, f0.q0, Option.bind_some, f0.r0 hk, Option.bind_some, fR.1 0 k (by decide) hk]
    show _ = m_X6_worst_p4 n t w h (bI sk) (nI (if herB S k then max (wstN S sk k) (fnd S (codeS S k) sk).2 else wstN S sk k)) (nI (k + 1))
    by_cases z : S (5 * k) = 0
    · rw [if_pos (show S (5 * k + 0) = 0 from z), her0 z, if_neg (show ¬ false = true by decide), nI_1]
    · obtain ⟨x, y, hx, hy, ex, ey, ec, hc⟩ := codeS_at (hw.1 k hk)
      have hf := fnd_ok hw (codeS S k) sk
      have hwl := wstN_le hw sk k
      obtain ⟨b1, -⟩ := ixN_mem (nds_of hw 0).1 (((nds_of hw 0).2 _).mpr hf.1)
      rw [if_neg (show ¬ S (5 * k + 0) = 0 from z), her1 z, if_pos rfl, e0, Option.bind_some, Option.bind_some, f0.q1, Option.bind_some, f0.r1 hk, Option.bind_some, Option.bind_some, f0.q2, Option.bind_some, f0.r2 hk, Option.bind_some, chk_at fc.1.1, Option.bind_some, fR.1 1 k (by decide) hk, fR.1 2 k (by decide) hk, ex, ey, m_findF hn fc hw hx hy, ← ec, Option.bind_some, show (32 : Int32) = nI 32 from rfl, pk_div (by omega) (by decide) (by decide), show ((fnd S (codeS S k) sk).2 * 32 + ixN (nds S 0) (fnd S (codeS S k) sk).1) / 32 = (fnd S (codeS S k) sk).2 by omega, mx_nI (by omega) (by omega), nI_1]) (by
    rintro t ⟨⟩ -
    exact ⟨_, by rw [m_X6_worst_p4, if_pos (by decide)], rfl⟩) 24 0 n () rfl (by omega) trivial
  exact e
theorem k_most {b : Nat} {sk : Bool} {I : Nat → Int32} {J : Nat → Int64} {A : Rw} (hn : 60 ≤ n) (m : MoC w b I J A) (hr : Row A S) (hw : WF S) : ∃ w' I', m_X7_most n w b (bI sk) = some (nI (wstN S sk 24), w') ∧ MoC w' b I' J A ∧ Iq I I' ∧ Fr w w' b := by
  unfold m_X7_most
  obtain ⟨z, e, w2, I2, rfl, g2⟩ := lp (σ := Wd) (R := Int32 × Wd) (fun t k v => m_X7_most_p4 n t v b (bI sk) (nI (wstN S sk k)) (nI k)) (fun k v => ∃ I', MoC v b I' J A ∧ Iq I I' ∧ Fr w v b) (fun z => ∃ w2 I2, z = (nI (wstN S sk 24), w2) ∧ MoC w2 b I2 J A ∧ Iq I I2 ∧ Fr w w2 b) 24 (by
    rintro t k v hk ⟨I1, h1, i1, q1⟩
    left
    have hwl := wstN_le hw sk k
    show ∃ s', m_X7_most_p4 n (t + 1) v b (bI sk) (nI (wstN S sk k)) (nI k) = m_X7_most_p4 n t s' b (bI sk) (nI (if herB S k then max (wstN S sk k) (fnd S (codeS S k) sk).2 else wstN S sk k)) (nI (k + 1)) ∧ _
    rw [m_X7_most_p4, if_neg (show ¬ (24 : Int32) ≤ nI k from nI_ge hk (by decide)), h1.c, Option.bind_some, m_there h1 hr hw hk, Option.bind_some]
    by_cases z : S (5 * k) = 0
    · exact ⟨v, by rw [if_pos z, her0 z, if_neg (show ¬ false = true by decide), nI_1], I1, h1, i1, q1⟩
    · obtain ⟨x, y, hx, hy, ex, ey, ec, hc⟩ := codeS_at (hw.1 k hk)
      have hf := fnd_ok hw (codeS S k) sk
      obtain ⟨w2, I2, e2, h2, i2, j2, q2⟩ := k_finds (n := n) (sk := sk) hn h1 hr hw hc
      refine ⟨w2, ?_, I2, h2, i1.tr i2, fun q hq => (q2 q hq).trans (q1 q hq)⟩
      rw [if_neg z, her1 z, if_pos (show true = true from rfl), Option.bind_some, m_place7 (by omega) h1 hr hw hk, Option.bind_some, Option.bind_some, e2, Option.bind_some, h2.i15, Option.bind_some, j2]
      by_cases y : (fnd S (codeS S k) sk).2 ≤ wstN S sk k
      · rw [if_pos (nI_le y (by omega)), Nat.max_eq_left y, nI_1]
      · rw [if_neg (nI_ge (show wstN S sk k < (fnd S (codeS S k) sk).2 by omega) (by omega)), Option.bind_some, Nat.max_eq_right (by omega), nI_1]) (by
    rintro t v ⟨I1, h1, i1, q1⟩
    refine ⟨_, ?_, v, I1, rfl, h1, i1, q1⟩
    show m_X7_most_p4 n (t + 1) v b (bI sk) (nI (wstN S sk 24)) (nI 24) = _
    rw [m_X7_most_p4, if_pos (by decide)]) 24 0 n w rfl (by omega) ⟨I, m, Iq.rf, fun _ _ => rfl⟩
  exact ⟨w2, I2, e, g2⟩
theorem S_worst {sk : Bool} (hn : 600 ≤ n) (H : InvK h w) : ∃ w', ((chk 5 w h).bind fun u1 => (m_X6_worst n w h (bI sk)).bind fun x2 => (chk 6 w (h + 87)).bind fun u3 => (m_X7_worst n w (h + 87) (bI sk)).bind fun z4 => if x2 = z4.1 then some z4.2 else none) = some w' ∧ InvK h w' := by
  obtain ⟨S, P, c, L, B, r, H⟩ := H
  have H0 := H
  obtain ⟨hw, g, sc, ⟨I, J, A, m⟩, o⟩ := H
  obtain ⟨w1, e1, h1, q1⟩ := m.1.p4 0
  have m1 : Mo w1 (h + 87) (setI I 4 0) J A S P c L B 0 := by
    obtain ⟨-, h2, h3, h4, h5, h6, h7⟩ := m
    exact ⟨h1, h2, ⟨by rw [setI_ne (by decide)]; exact h3.1, h3.2⟩, h4, ⟨by rw [setI_ne (by decide)]; exact h5.1, h5.2⟩, h6, setI_self⟩
  obtain ⟨w2, I2, e2, h2, i2, q2⟩ := k_most (n := n) (sk := sk) (by omega) m1.1 m1.2.1 hw
  have m2 := m1.to h2 m1.2.1 (fun k hk => i2 k (by omega)) fun _ _ _ => rfl
  refine ⟨w2, ?_, case_raw H0 hw g sc (fun _ _ => rfl) ⟨_, _, _, m2⟩ fun z hz => (q2 z hz).trans (q1 z hz)⟩
  rw [g.ck, Option.bind_some, m_worst6 (by omega) g hw, Option.bind_some, m.ck, Option.bind_some, m_X7_worst, e1, Option.bind_some, h1.c, Option.bind_some, e2, Option.bind_some, Option.bind_some, if_pos rfl]
theorem B_worst (hn : 600 ≤ n) (H : InvK h w) : ∃ w', mc_11 K n w h (h + 87) (h + 97) xs i = some w' ∧ InvK h w' := by
  by_cases z : xs (Int32.toNatClampNeg (i + 1)) = 0
  · obtain ⟨w', e, I⟩ := S_worst (sk := false) hn H
    refine ⟨w', ?_, I⟩
    rw [mc_11, if_pos z]
    simp only [if_pos z]
    exact e
  · obtain ⟨w', e, I⟩ := S_worst (sk := true) hn H
    refine ⟨w', ?_, I⟩
    rw [mc_11, if_neg z]
    simp only [if_neg z]
    exact e
theorem m_search6 {x y what : Nat} {sk : Bool} (hn : 60 ≤ n) (g : ClI w h S P c) (hw : WF S) (hx : x < 64) (hy : y < 64) (hwh : what ≤ 2) : m_X6_search n w h (nI x) (nI y) (bI sk) (nI what) = some (seV S (codeN x y) sk what) := by
  obtain ⟨fo, e0, fc⟩ := g.fo
  obtain ⟨cs, a1, a2, a3, a4, a5⟩ := fc.lev hw (show 0 < 5 by decide)
  have h24 := nds_len hw 0
  have hf := fnd_ok hw (codeN x y) sk
  obtain ⟨b1, b2⟩ := ixN_mem (nds_of hw 0).1 (((nds_of hw 0).2 _).mpr hf.1)
  have d1 : (nI ((fnd S (codeN x y) sk).2 * 32 + ixN (nds S 0) (fnd S (codeN x y) sk).1)) / 32 = nI (fnd S (codeN x y) sk).2 := by
    rw [show (32 : Int32) = nI 32 from rfl, pk_div (by omega) (by decide) (by decide)]
    exact congrArg nI (by omega)
  have d2 : jrm (nI ((fnd S (codeN x y) sk).2 * 32 + ixN (nds S 0) (fnd S (codeN x y) sk).1)) 32 = nI (ixN (nds S 0) (fnd S (codeN x y) sk).1) := by
    rw [show (32 : Int32) = nI 32 from rfl, jrm_nI (by omega) (by decide) (by decide)]
    exact congrArg nI (by omega)
  rw [m_X6_search, pl_1 hx hy, if_neg ne1.1, show m_X6_inside (nI what) 0 2 = 1 from ins_1 (m := 2) (by decide) hwh, if_neg ne1.1, throw0, Option.bind_some, e0, Option.bind_some, chk_at fc.1.1, Option.bind_some, m_findF hn fc hw hx hy, Option.bind_some]
  unfold seV
  rcases (show what = 0 ∨ what = 1 ∨ what = 2 by omega) with rfl | rfl | rfl
  · rw [if_pos (show nI 0 = 0 from rfl), if_pos rfl, d1]
  · rw [if_neg (show ¬ nI 1 = 0 by decide), if_pos (show nI 1 = 1 from rfl), if_neg (by decide), if_pos rfl, d2]
  · have lv0 := fc.1.lv (f := fun q9 => (gfR 1 2 w q9).bind fun q10 => (agI 0 w q10 (nI (ixN (nds S 0) (fnd S (codeN x y) sk).1))).bind fun x11 => some (m_X3_size x11)) (show 0 < 5 by decide)
    rw [if_neg (show ¬ nI 2 = 0 by decide), if_neg (show ¬ nI 2 = 1 by decide), if_neg (by decide), if_neg (by decide), d2, Option.bind_some]
    refine lv0.trans ?_
    show ((gfR 1 2 w (fo + 3 + 3 * 0)).bind fun q10 => (agI 0 w q10 (nI (ixN (nds S 0) (fnd S (codeN x y) sk).1))).bind fun x11 => some (m_X3_size x11)) = _
    rw [a1.g2, Option.bind_some, a1.sqr b1, Option.bind_some, b2]
theorem S_search {a x y : Int32} {sk : Bool} (hn : 600 ≤ n) (H : InvK h w) : ∃ w', mcF (fun w1 => m_X7_search n w1 (h + 87) a x (bI sk) y) (m_L_search n w h a x (bI sk) y (h + 97)) n (h + 87) (h + 97) = some w' ∧ InvK h w' := by
  obtain ⟨S, P, c, L, B, r, H⟩ := H
  have H0 := H
  obtain ⟨hw, g, sc, M, o⟩ := H
  rcases pl_c a x with h1 | ⟨h1, p, q, hp, hq, rfl, rfl⟩
  · obtain ⟨w3, f3, m3, q3⟩ := k_no (n := n) (k := 1) pos1.1 M
    refine case_no (v := 0) H0 ne1.1 ?_ ⟨w3, ?_, m3, q3⟩
    · rw [m_L_search, g.ck, Option.bind_some, q_X6_search, if_pos h1, Option.bind_some, if_neg ne1.2.1, if_pos rfl]
    · rw [m_X7_search, if_pos (show m_X7_isPlace a x = 0 from h1), M.ck, Option.bind_some, f3, Option.bind_some, if_neg ne1.1]
  · have h1' : ¬ m_X6_isPosition (nI p) (nI q) = 0 := by rw [h1]; decide
    rcases ins_c y (m := 2) (by decide) with h2 | ⟨h2, wh, hwh, rfl⟩
    · obtain ⟨w3, f3, m3, q3⟩ := k_no (n := n) (k := 1) pos1.1 M
      refine case_no (v := 0) H0 ne1.1 ?_ ⟨w3, ?_, m3, q3⟩
      · rw [m_L_search, g.ck, Option.bind_some, q_X6_search, if_neg h1', if_pos (show m_X6_inside y 0 2 = 0 from h2), Option.bind_some, if_neg ne1.2.1, if_pos rfl]
      · rw [m_X7_search, if_neg (show ¬ m_X7_isPlace (nI p) (nI q) = 0 from h1'), if_pos (show m_X7_in y 0 2 = 0 from h2), M.ck, Option.bind_some, f3, Option.bind_some, if_neg ne1.1]
    · have h2' : ¬ m_X6_inside (nI wh) 0 2 = 0 := fun z => absurd (h2.symm.trans z) (by decide)
      refine case_ok H0 (w1 := w) (v := seV S (codeN p q) sk wh) ?_ hw g sc (fun _ _ => rfl) fun v2 m2 => ?_
      · rw [m_L_search, g.ck, Option.bind_some, q_X6_search, if_neg h1', if_neg h2', Option.bind_some, if_pos rfl, m_search6 (by omega) g hw hp hq hwh, Option.bind_some]
      · obtain ⟨I, J, A, m⟩ := m2
        obtain ⟨u1, f1, m1, q1⟩ := k_ref0 (n := n) m
        obtain ⟨u2, A2, f2, m2, t2, q2⟩ := k_lays (n := n) (by omega) m1 hw
        have hcc := (code6_all p hp q hq).2
        obtain ⟨u3, I3, f3, m3, i3, j3, q3⟩ := k_finds (n := n) (sk := sk) (by omega) m2.1 m2.2.1 hw hcc
        have hf := fnd_ok hw (codeN p q) sk
        refine ⟨u3, ?_, ⟨I3, J, A2, m2.to m3 m2.2.1 (fun k hk => i3 k (by omega)) fun _ _ _ => rfl⟩, fun z hz => (q3 z hz).trans ((q2 z hz).trans (q1 z hz))⟩
        rw [m_X7_search, if_neg (show ¬ m_X7_isPlace (nI p) (nI q) = 0 from h1'), if_neg (show ¬ m_X7_in (nI wh) 0 2 = 0 from h2'), m.ck, Option.bind_some, f1, Option.bind_some, if_pos rfl, m1.ck, Option.bind_some, f2, Option.bind_some, m_codeOf (by omega) hp hq, Option.bind_some, m2.ck, Option.bind_some, f3, Option.bind_some]
        unfold seV
        rcases (show wh = 0 ∨ wh = 1 ∨ wh = 2 by omega) with rfl | rfl | rfl
        · rw [if_pos (show nI 0 = 0 from rfl), if_pos rfl, m3.i15, Option.bind_some, j3]
        · have ki := k_index (n := n) (q := (fnd S (codeN p q) sk).1) (by omega) m3 (show 0 < 5 by decide) (t2 0 (by decide)) (nds_len hw 0) (nds_of hw 0).1 (fun x hx => nds_lt hw hx) (((nds_of hw 0).2 _).mpr hf.1)
          rw [if_neg (show ¬ nI 1 = 0 by decide), if_pos (show nI 1 = 1 from rfl), if_neg (by decide), if_pos rfl, m3.c, Option.bind_some, show m_X7_indexOf n u3 (h + 87) 0 (nI (fnd S (codeN p q) sk).1) = _ from ki, Option.bind_some]
        · rw [if_neg (show ¬ nI 2 = 0 by decide), if_neg (show ¬ nI 2 = 1 by decide), if_neg (by decide), if_neg (by decide)]
          rfl
theorem B_search (hn : 600 ≤ n) (H : InvK h w) : ∃ w', mc_10 K n w h (h + 87) (h + 97) xs i = some w' ∧ InvK h w' := by
  by_cases z : xs (Int32.toNatClampNeg (i + 3)) = 0
  · obtain ⟨w', e, I⟩ := S_search (sk := false) (a := xs (Int32.toNatClampNeg (i + 1))) (x := xs (Int32.toNatClampNeg (i + 2))) (y := xs (Int32.toNatClampNeg (i + 4))) hn H
    refine ⟨w', ?_, I⟩
    rw [mc_10, if_pos z]
    simp only [if_pos z]
    exact e
  · obtain ⟨w', e, I⟩ := S_search (sk := true) (a := xs (Int32.toNatClampNeg (i + 1))) (x := xs (Int32.toNatClampNeg (i + 2))) (y := xs (Int32.toNatClampNeg (i + 4))) hn H
    refine ⟨w', ?_, I⟩
    rw [mc_10, if_neg z]
    simp only [if_neg z]
    exact e
end WO
