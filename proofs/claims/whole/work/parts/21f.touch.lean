/-! wouldTouch, open -/
section WT
variable {n h c L : Nat} {w : Wd} {S : Nat → Int32} {P : Nat → Nat → Int32} {B : Nat → Int32} {r : Int32} {K : Nat → Nat} {xs : Nat → Int32} {i : Int32}
theorem put_back {x y : Int32} {id : Nat} (hz : S (5 * id) = 1) : putS (putS S id x y) id (S (5 * id + 1)) (S (5 * id + 2)) = S := by
  funext k
  unfold putS upd
  by_cases c2 : k = 5 * id + 2
  · rw [if_pos c2, c2]
  · rw [if_neg c2, if_neg c2]
    by_cases c1 : k = 5 * id + 1
    · rw [if_pos c1, c1]
    · rw [if_neg c1, if_neg c1]
      by_cases c0 : k = 5 * id
      · rw [if_pos c0, c0, hz]
      · rw [if_neg c0, if_neg c0]
theorem B_would (hn : 600 ≤ n) (H : InvK h w) : ∃ w', mc_12 K n w h (h + 87) (h + 97) xs i = some w' ∧ InvK h w' := by
  obtain ⟨S, P, c, L, B, r, H⟩ := H
  generalize ea : xs (Int32.toNatClampNeg (i + 1)) = a
  generalize ex : xs (Int32.toNatClampNeg (i + 2)) = x
  generalize ey : xs (Int32.toNatClampNeg (i + 3)) = y
  show ∃ w', mcF (fun w1 => m_X7_wouldTouch n w1 (h + 87) (xs (Int32.toNatClampNeg (i + 1))) (xs (Int32.toNatClampNeg (i + 2))) (xs (Int32.toNatClampNeg (i + 3)))) (m_L_wouldTouch n w h (xs (Int32.toNatClampNeg (i + 1))) (xs (Int32.toNatClampNeg (i + 2))) (xs (Int32.toNatClampNeg (i + 3))) (h + 97)) n (h + 87) (h + 97) = some w' ∧ _
  rw [ea, ex, ey]
  have H0 := H
  obtain ⟨hw, g, sc, M, o⟩ := H
  have eq : q_X6_wouldTouch n w h a x y = some (if m_X6_isId a = 0 then 1 else if m_X6_isPosition x y = 0 then 2 else if S (5 * a.toNatClampNeg) = 1 then 0 else 3) := by rw [q_X6_wouldTouch, g.ck, Option.bind_some, m_refP g, Option.bind_some]
  have no : ∀ k : Int32, ¬ k ≤ 0 → (if m_X6_isId a = 0 then (1 : Int32) else if m_X6_isPosition x y = 0 then 2 else if S (5 * a.toNatClampNeg) = 1 then 0 else 3) = k → ∃ w3, m_X7_wouldTouch n w (h + 87) a x y = some (0, w3) ∧ MoI w3 (h + 87) S P c L B k ∧ Fr w w3 (h + 87) := fun k hk ek => by
    obtain ⟨w3, e3, m3, q3⟩ := k_no (n := n) hk M
    obtain ⟨I, J, A, m⟩ := M
    refine ⟨w3, ?_, m3, q3⟩
    rw [m_X7_wouldTouch, m.ck, Option.bind_some, k_badM m.1 m.2.1 hw, Option.bind_some, Option.bind_some, ek, e3, Option.bind_some, if_neg ne1.1]
  rcases rfP_c (S := S) (a := a) (x := x) (y := y) (e := 1) with hk | ⟨hk, id, p, q, hi, hp, hq, rfl, rfl, rfl, hz⟩
  · rcases hk with hk | hk | hk
    · refine case_no H0 ne1.1 ?_ (no 1 pos1.1 hk)
      rw [m_L_wouldTouch, g.ck, Option.bind_some, eq, hk, Option.bind_some, if_neg ne1.1, if_pos rfl]
    · refine case_no H0 ne1.2.1 ?_ (no 2 pos1.2.1 hk)
      rw [m_L_wouldTouch, g.ck, Option.bind_some, eq, hk, Option.bind_some, if_neg ne1.2.1, if_neg ne1.2.2.2.1, if_pos rfl]
    · refine case_no H0 ne1.2.2.1 ?_ (no 3 pos1.2.2 hk)
      rw [m_L_wouldTouch, g.ck, Option.bind_some, eq, hk, Option.bind_some, if_neg ne1.2.2.1, if_neg ne1.2.2.2.2.1, if_neg ne1.2.2.2.2.2, if_pos rfl]
  · have g0 := g
    have hw' := hw.put (i := id) hi hp hq
    obtain ⟨F, t0, f0, fR⟩ := g.1
    obtain ⟨w1, e1, s1, q1⟩ := m_put (n := n) (x := nI p) (y := nI q) g.1 hi
    obtain ⟨s0, ⟨t, rg⟩, fo, sp, fs, ob, fc, fx⟩ := g
    unfold FSp at fs
    obtain ⟨w2, e2, fc2, q2⟩ := m_plant (n := n) (a := sp) (by omega) (fx.frame (w' := w1) fun z a b => q1 z (by omega)) s1 hw' (by omega)
    obtain ⟨w3, e3, s3, q3⟩ := m_put (n := n) (x := S (5 * id + 1)) (y := S (5 * id + 2)) (s1.frame (w' := w2) fun z a b => q2 z (by omega)) hi
    rw [put_back hz] at s3
    have Q : ∀ z, z ≠ h → (z < h + 1 ∨ h + 9 < z) → (z < sp ∨ sp + 17 < z) → w3 z = w z := fun z a b d => (q3 z (by omega)).trans ((q2 z (by omega)).trans (q1 z (by omega)))
    have ob1 : ObC w1 h fo sp := by
      unfold ObC
      rw [q1 h (by omega)]
      exact ob
    have ob2 : ObC w2 h fo sp := by
      unfold ObC
      rw [q2 h (by omega)]
      exact ob1
    have ob3 : ObC w3 h fo sp := by
      unfold ObC
      rw [q3 h (by omega)]
      exact ob2
    have fc3 : FoC w3 fo S := fc.frame fun z a b => Q z (by omega) (by omega) (by omega)
    have fx3 : FoC w3 sp (putS S id (nI p) (nI q)) := fc2.frame fun z a b => q3 z (by omega)
    have g3 : ClI w3 h S P c := ⟨s3, ⟨t, rg.frame fun z a b => Q z (by omega) (by omega) (by omega)⟩, fo, sp, fs, ob3, fc3, fx3.x⟩
    have c1 : chk 0 w1 sp = some () := chk_at (show w1 sp = _ by rw [q1 sp (by omega)]; exact fx.1.1)
    have c2 : chk 3 w2 (h + 1) = some () := by
      obtain ⟨F2, t2, f2, -⟩ := s1
      exact chk_at (show w2 (h + 1) = _ by rw [q2 _ (by omega)]; exact f2.1)
    have c3 : chk 0 w3 fo = some () := chk_at fc3.1.1
    refine case_ok H0 (w1 := w3) (v := nI (touK S (putS S id (nI p) (nI q)) 5)) ?_ hw g3 (sc.frame fun z a b => Q z (by omega) (by omega) (by omega)) (fun z hz => Q z (by omega) (by omega) (by omega)) fun v2 m2 => ?_
    · rw [m_L_wouldTouch, g0.ck, Option.bind_some, eq, hk, Option.bind_some, if_pos rfl, m_X6_wouldTouch, g0.ck, Option.bind_some, m_refP g0, Option.bind_some, hk, throw0, Option.bind_some, g0.n0, Option.bind_some, f0.q1, Option.bind_some, f0.r1 hi, Option.bind_some, Option.bind_some, f0.q2, Option.bind_some, f0.r2 hi, Option.bind_some, Option.bind_some, g0.ck3, Option.bind_some, e1, Option.bind_some, gfR_at ob1 rfl, Option.bind_some, gfR_at ob1 rfl, Option.bind_some, c1, Option.bind_some, e2, Option.bind_some, gfR_at ob2 rfl, Option.bind_some, c2, Option.bind_some, fR.1 1 id (by decide) hi, fR.1 2 id (by decide) hi, e3, Option.bind_some, gfR_at ob3 rfl, Option.bind_some, gfR_at ob3 rfl, Option.bind_some, c3, Option.bind_some, m_fdiff (by omega) fc3 fx3 hw hw', Option.bind_some, Option.bind_some]
    · obtain ⟨I, J, A, m⟩ := m2
      obtain ⟨u1, f1, m1, z1⟩ := k_ref0 (n := n) m
      obtain ⟨u2, A2, f2, m2, r2, a2, z2⟩ := k_adds (n := n) (by omega) m1.1 m1.2.1 hw hi hp hq
      obtain ⟨u3, A3, f3, m3, r3, a3, z3⟩ := k_puts (n := n) (x := S (5 * id + 1)) (y := S (5 * id + 2)) m2 r2 hw' hi
      rw [put_back hz] at r3
      refine ⟨u3, ?_, ⟨_, J, A3, m1.to m3 r3 (fun _ _ => rfl) fun j k hj => (a3 j k (by omega)).trans (a2 j k (by omega))⟩, fun z hz => (z3 z hz).trans ((z2 z hz).trans (z1 z hz))⟩
      have s1 : (5 : Int32) * nI id + 1 = nI (5 * id + 1) := e5k id 1
      have s2 : (5 : Int32) * nI id + 2 = nI (5 * id + 2) := e5k id 2
      rw [m_X7_wouldTouch, m.ck, Option.bind_some, k_badM m.1 m.2.1 hw, Option.bind_some, Option.bind_some, hk, f1, Option.bind_some, if_pos rfl, s1, s2, m1.1.g0, Option.bind_some, m1.1.r0 (by omega), Option.bind_some, Option.bind_some, m1.1.r0 (by omega), Option.bind_some, m1.ck, Option.bind_some, f2, Option.bind_some, m2.c, Option.bind_some, m1.2.1 _ (by omega), m1.2.1 _ (by omega), f3, Option.bind_some]
/-! open -/
def opnS (S : Nat → Int32) (cu : Nat) (x y : Int32) : Nat → Int32 := upd (upd (upd S (120 + 5 * cu) x) (121 + 5 * cu) y) (122 + 5 * cu) 0
theorem WF.opn {cu x y : Nat} (hw : WF S) (hc : cu < 4) (hx : x < 64) (hy : y < 64) : WF (opnS S cu (nI x) (nI y)) := by
  refine ⟨fun i hi => ?_, fun c hc => ?_⟩
  · have := hw.1 i hi
    unfold WFp at this ⊢
    have e : ∀ k, k < 120 → opnS S cu (nI x) (nI y) k = S k := fun k hk => by unfold opnS; rw [pk_un (by omega), pk_un (by omega), pk_un (by omega)]
    rw [e _ (by omega), e _ (by omega), e _ (by omega), e _ (by omega), e _ (by omega)]
    exact this
  · by_cases e : c = cu
    · subst e
      have e0 : opnS S c (nI x) (nI y) (120 + 5 * c) = nI x := by unfold opnS; rw [pk_un (by omega), pk_un (by omega), pk_us]
      have e1 : opnS S c (nI x) (nI y) (121 + 5 * c) = nI y := by unfold opnS; rw [pk_un (by omega), pk_us]
      have e2 : opnS S c (nI x) (nI y) (122 + 5 * c) = 0 := by unfold opnS; rw [pk_us]
      unfold WFc
      rw [e0, e1, e2]
      exact ⟨⟨x, hx, rfl⟩, ⟨y, hy, rfl⟩, Or.inl rfl⟩
    · have := hw.2 c hc
      unfold WFc at this ⊢
      have e : ∀ k, k < 5 → opnS S cu (nI x) (nI y) (120 + 5 * c + k) = S (120 + 5 * c + k) := fun k hk => by unfold opnS; rw [pk_un (by omega), pk_un (by omega), pk_un (by omega)]
      have a0 := e 0 (by decide)
      have a1 := e 1 (by decide)
      have a2 := e 2 (by decide)
      have a3 := e 3 (by decide)
      have a4 := e 4 (by decide)
      rw [show 120 + 5 * c + 0 = 120 + 5 * c from rfl] at a0
      rw [show 120 + 5 * c + 1 = 121 + 5 * c by omega] at a1
      rw [show 120 + 5 * c + 2 = 122 + 5 * c by omega] at a2
      rw [show 120 + 5 * c + 3 = 123 + 5 * c by omega] at a3
      rw [show 120 + 5 * c + 4 = 124 + 5 * c by omega] at a4
      rw [a0, a1, a2, a3, a4]
      exact this
theorem same_cu {S' : Nat → Int32} (h : ∀ k, k < 120 → S' k = S k) : SameP S S' := fun j hj => ⟨h _ (by omega), h _ (by omega), h _ (by omega)⟩
theorem m_open6 {cu : Nat} {x y : Int32} (g : ClI w h S P c) (hc : cu < 4) : ∃ w3, (∀ {R : Type} (f : Wd → Option R), ((gfR 5 0 w h).bind fun q6 => (gfR 3 5 w q6).bind fun q7 => (asI 0 w q7 (nI cu) x).bind fun w8 => (gfR 5 0 w8 h).bind fun q9 => (gfR 3 6 w8 q9).bind fun q10 => (asI 0 w8 q10 (nI cu) y).bind fun w11 => (gfR 5 0 w11 h).bind fun q12 => (gfR 3 7 w11 q12).bind fun q13 => (asI 0 w11 q13 (nI cu) (-1)).bind f) = f w3) ∧ ClI w3 h (opnS S cu x y) P c ∧ FrC w w3 h := by
  obtain ⟨F, t, f0, fR⟩ := g.1
  obtain ⟨w1, e1, f1, q1⟩ := f0.w5 x hc
  obtain ⟨w2, e2, f2, q2⟩ := f1.w6 y hc
  obtain ⟨w3, e3, f3, q3⟩ := f2.w7 (-1) hc
  have gg : ClJ w3 h S (opnS S cu x y) P c ∧ FrC w w3 h := g.st ⟨_, t, f3, ⟨fun j i hj hi => by
      rw [setF_row (by omega), setF_row (by omega), setF_row (by omega)]
      unfold opnS
      rw [pk_un (by omega), pk_un (by omega), pk_un (by omega)]
      exact fR.1 j i hj hi, fun d hd => by
      have r0 := fR.2.1 d hd
      by_cases e : d = cu
      · subst e
        refine ⟨?_, ?_, ?_⟩
        · rw [setF_row (by decide), setF_row (by decide), setF_self]
          unfold opnS
          rw [pk_un (by omega), pk_un (by omega), pk_us]
        · rw [setF_row (by decide), setF_self]
          unfold opnS
          rw [pk_un (by omega), pk_us]
        · rw [setF_self]
          unfold lpOf opnS
          rw [pk_us, if_pos rfl]
      · refine ⟨?_, ?_, ?_⟩
        · rw [setF_row (by decide), setF_row (by decide), setF_col e]
          unfold opnS
          rw [pk_un (by omega), pk_un (by omega), pk_un (by omega)]
          exact r0.1
        · rw [setF_row (by decide), setF_col e, setF_row (by decide)]
          unfold opnS
          rw [pk_un (by omega), pk_un (by omega), pk_un (by omega)]
          exact r0.2.1
        · rw [setF_col e, setF_row (by decide), setF_row (by decide)]
          unfold lpOf opnS
          rw [pk_un (by omega), pk_un (by omega), pk_un (by omega), pk_un (by omega), pk_un (by omega), pk_un (by omega), pk_un (by omega), pk_un (by omega), pk_un (by omega)]
          exact r0.2.2, by
      unfold opnS
      rw [pk_un (by omega), pk_un (by omega), pk_un (by omega)]
      exact fR.2.2⟩⟩ fun q hq => (q3 q hq).trans ((q2 q hq).trans (q1 q hq))
  have n1 : gfR 5 0 w1 h = some (h + 1) := by
    have e : gfR 5 0 w1 h = gfR 5 0 w h := by
      unfold gfR gfV
      rw [q1 h (by omega)]
    rw [e, g.n0]
  have n2 : gfR 5 0 w2 h = some (h + 1) := by
    have e : gfR 5 0 w2 h = gfR 5 0 w1 h := by
      unfold gfR gfV
      rw [q2 h (by omega)]
    rw [e, n1]
  refine ⟨w3, fun f => ?_, gg.1.same (same_cu fun k hk => by unfold opnS; rw [pk_un (by omega), pk_un (by omega), pk_un (by omega)]), gg.2⟩
  rw [g.n0, Option.bind_some, f0.q5, Option.bind_some, e1, Option.bind_some, n1, Option.bind_some, f1.q6, Option.bind_some, e2, Option.bind_some, n2, Option.bind_some, f2.q7, Option.bind_some, e3, Option.bind_some]
theorem e120 (cu : Nat) : (120 : Int32) + 5 * nI cu = nI (120 + 5 * cu) := by rw [e5, show (120 : Int32) = nI 120 from rfl, nI_add]
theorem her_opn {cu : Nat} {x y : Int32} : cB (herB (opnS S cu x y)) 24 = cB (herB S) 24 := cB_cong fun i hi => by
  unfold herB opnS
  rw [pk_un (by omega), pk_un (by omega), pk_un (by omega)]
theorem B_open (hn : 600 ≤ n) (H : InvK h w) : ∃ w', mc_13 K n w h (h + 87) (h + 97) xs i = some w' ∧ InvK h w' := by
  obtain ⟨S, P, c, L, B, r, H⟩ := H
  generalize ea : xs (Int32.toNatClampNeg (i + 1)) = a
  generalize ex : xs (Int32.toNatClampNeg (i + 2)) = x
  generalize ey : xs (Int32.toNatClampNeg (i + 3)) = y
  show ∃ w', mcF (fun w1 => m_X7_open n w1 (h + 87) (xs (Int32.toNatClampNeg (i + 1))) (xs (Int32.toNatClampNeg (i + 2))) (xs (Int32.toNatClampNeg (i + 3)))) (m_L_open n w h (xs (Int32.toNatClampNeg (i + 1))) (xs (Int32.toNatClampNeg (i + 2))) (xs (Int32.toNatClampNeg (i + 3))) (h + 97)) n (h + 87) (h + 97) = some w' ∧ _
  rw [ea, ex, ey]
  have H0 := H
  obtain ⟨hw, g, sc, M, o⟩ := H
  rcases ins_c a (m := 3) (by decide) with h1 | ⟨h1, cu, hcu, rfl⟩
  · obtain ⟨w3, f3, m3, q3⟩ := k_no (n := n) (k := 1) pos1.1 M
    refine case_no (v := 0) H0 ne1.1 ?_ ⟨w3, ?_, m3, q3⟩
    · rw [m_L_open, g.ck, Option.bind_some, q_X6_open, m_X6_refusalOfOpen, if_pos (show m_X6_inside a 0 3 = 0 from h1), Option.bind_some, if_neg ne1.1, if_pos rfl]
    · rw [m_X7_open, if_pos (show m_X7_isCursor a = 0 from h1), m_X7_open_p25, M.ck, Option.bind_some, f3, Option.bind_some, if_neg ne1.1]
  · have h1' : ¬ m_X6_inside (nI cu) 0 3 = 0 := fun q => absurd (h1.symm.trans q) (by decide)
    rcases pl_c x y with h2 | ⟨h2, p, q, hp, hq, rfl, rfl⟩
    · obtain ⟨w3, f3, m3, q3⟩ := k_no (n := n) (k := 2) pos1.2.1 M
      refine case_no (v := 0) H0 ne1.2.1 ?_ ⟨w3, ?_, m3, q3⟩
      · rw [m_L_open, g.ck, Option.bind_some, q_X6_open, m_X6_refusalOfOpen, if_neg h1', if_pos h2, Option.bind_some, if_neg ne1.2.1, if_neg ne1.2.2.2.1, if_pos rfl]
      · rw [m_X7_open, if_neg (show ¬ m_X7_isCursor (nI cu) = 0 from h1'), if_pos (show m_X7_isPlace x y = 0 from h2), m_X7_open_p25, M.ck, Option.bind_some, f3, Option.bind_some, if_neg ne1.1]
    · have h2' : ¬ m_X6_isPosition (nI p) (nI q) = 0 := by rw [h2]; decide
      obtain ⟨w1, e1, g1, q1⟩ := m_push6 (n := n) (by omega) g hw
      obtain ⟨w2, e2, g2, q2⟩ := m_open6 (x := nI p) (y := nI q) g1 (show cu < 4 by omega)
      refine case_ok H0 (w1 := w2) (v := nI (cB (herB S) 24)) ?_ (hw.opn (by omega) hp hq) g2 (sc.frame fun z a b => (q2 z (by omega)).trans (q1 z (by omega))) (fun z hz => (q2 z (by omega)).trans (q1 z (by omega))) fun v2 m2 => ?_
      · rw [m_L_open, g.ck, Option.bind_some, q_X6_open, m_X6_refusalOfOpen, if_neg h1', if_neg h2', Option.bind_some, if_pos rfl, m_X6_open, m_X6_refusalOfOpen, if_neg h1', if_neg h2', throw0, Option.bind_some, g.n1, Option.bind_some, g.n0, Option.bind_some, g.ck4, Option.bind_some, e1, Option.bind_some, e2, g2.n0, Option.bind_some, g2.ck3, Option.bind_some, m_count (by omega) g2.1, her_opn, Option.bind_some, Option.bind_some]
      · obtain ⟨u1, u2, I, J, A, f1, c1, f2, c2, m3, q3⟩ := k_start (n := n) hn m2
        obtain ⟨u3, f3, m4, q4⟩ := m3.1.w0 (nI p) (k := 120 + 5 * cu) (by omega)
        obtain ⟨u4, f4, m5, q5⟩ := m4.w0 (nI q) (k := 120 + 5 * cu + 1) (by omega)
        obtain ⟨u5, f5, m6, q6⟩ := m5.w0 0 (k := 120 + 5 * cu + 2) (by omega)
        have r6 : Row (setF (setF (setF A 0 (120 + 5 * cu) (nI p)) 0 (120 + 5 * cu + 1) (nI q)) 0 (120 + 5 * cu + 2) 0) (opnS S cu (nI p) (nI q)) := fun k hk => by
          simp only [setF_at, opnS, upd, true_and]
          rw [m3.2.1 k hk, show 120 + 5 * cu + 1 = 121 + 5 * cu by omega, show 120 + 5 * cu + 2 = 122 + 5 * cu by omega]
        refine ⟨u5, ?_, ⟨I, J, _, m3.to m6 r6 (fun _ _ => rfl) fun j k hj => by rw [setF_row (by omega), setF_row (by omega), setF_row (by omega)]⟩, fun z hz => (q6 z hz).trans ((q5 z hz).trans ((q4 z hz).trans (q3 z hz)))⟩
        have s1 : nI (120 + 5 * cu) + 1 = nI (120 + 5 * cu + 1) := nI_add _ 1
        have s2 : nI (120 + 5 * cu) + 2 = nI (120 + 5 * cu + 2) := nI_add _ 2
        rw [m_X7_open, if_neg (show ¬ m_X7_isCursor (nI cu) = 0 from h1'), if_neg (show ¬ m_X7_isPlace (nI p) (nI q) = 0 from h2'), m_X7_open_p25, m2.ck, Option.bind_some, f1, Option.bind_some, if_pos rfl, c1, Option.bind_some, f2, Option.bind_some, e120, s1, s2, m3.1.g0, Option.bind_some, f3, Option.bind_some, m4.g0, Option.bind_some, f4, Option.bind_some, m5.g0, Option.bind_some, f5, Option.bind_some, m6.c, Option.bind_some, k_many (by omega) m6 r6 (hw.opn (by omega) hp hq), her_opn, Option.bind_some]
end WT
