/-! next, cursor, within -/
def vnx (m : Nat) : Int32 := if m = 0 then -1 else nI ((m - 1) % 32)
def nxtS (S : Nat → Int32) (cu m : Nat) : Nat → Int32 := upd (upd (upd S (122 + 5 * cu) 1) (123 + 5 * cu) (nI ((m - 1) / 32))) (124 + 5 * cu) (nI ((m - 1) % 32))
section NX
variable {n h c L : Nat} {w : Wd} {S : Nat → Int32} {P : Nat → Nat → Int32} {B : Nat → Int32} {r : Int32} {K : Nat → Nat} {xs : Nat → Int32} {i : Int32}
theorem nxt_o {cu m k : Nat} (h : k < 122 + 5 * cu ∨ 124 + 5 * cu < k) : nxtS S cu m k = S k := by
  unfold nxtS
  rw [pk_un (by omega), pk_un (by omega), pk_un (by omega)]
theorem nxt_2 {cu m : Nat} : nxtS S cu m (122 + 5 * cu) = 1 := by
  unfold nxtS
  rw [pk_un (by omega), pk_un (by omega), pk_us]
theorem nxt_3 {cu m : Nat} : nxtS S cu m (123 + 5 * cu) = nI ((m - 1) / 32) := by
  unfold nxtS
  rw [pk_un (by omega), pk_us]
theorem nxt_4 {cu m : Nat} : nxtS S cu m (124 + 5 * cu) = nI ((m - 1) % 32) := by
  unfold nxtS
  rw [pk_us]
theorem WF.nxt {cu m : Nat} (hw : WF S) (h1 : (m - 1) / 32 ≤ 7938) (h2 : (m - 1) % 32 < 24) : WF (nxtS S cu m) := by
  refine ⟨fun i hi => ?_, fun d hd => ?_⟩
  · have := hw.1 i hi
    unfold WFp at this ⊢
    rw [nxt_o (by omega), nxt_o (by omega), nxt_o (by omega), nxt_o (by omega), nxt_o (by omega)]
    exact this
  · have := hw.2 d hd
    unfold WFc at this ⊢
    by_cases e : d = cu
    · subst e
      rw [nxt_o (by omega), nxt_o (by omega), nxt_2, nxt_3, nxt_4]
      exact ⟨this.1, this.2.1, Or.inr ⟨rfl, ⟨_, h1, rfl⟩, _, h2, rfl⟩⟩
    · rw [nxt_o (by omega), nxt_o (by omega), nxt_o (by omega), nxt_o (by omega), nxt_o (by omega)]
      exact this
theorem nxt_R {cu m : Nat} {F : Rw} {t : Int32} (hR : StR S F t) (hm : 0 < m) : StR (nxtS S cu m) (setF F 7 cu (laI m)) t := by
  refine ⟨fun j i hj hi => ?_, fun d hd => ?_, ?_⟩
  · rw [setF_row (by omega), nxt_o (by omega)]
    exact hR.1 j i hj hi
  · obtain ⟨r1, r2, r3⟩ := hR.2.1 d hd
    rw [setF_row (by decide), setF_row (by decide), nxt_o (by omega), nxt_o (by omega)]
    refine ⟨r1, r2, ?_⟩
    by_cases e : d = cu
    · subst e
      rw [setF_self]
      unfold lpOf laI
      rw [nxt_2, nxt_3, nxt_4, if_neg ne1.1, if_neg (by omega), show (32 : Int32) = nI 32 from rfl, pk_mul, nI_add]
      exact congrArg nI (by omega)
    · rw [setF_col e, r3]
      unfold lpOf
      rw [nxt_o (by omega), nxt_o (by omega), nxt_o (by omega)]
  · rw [nxt_o (by omega)]
    exact hR.2.2
noncomputable def nxM (S : Nat → Int32) (cu : Nat) : Nat := mA S (cxN S cu) (cyN S cu) (loC S cu) 24
noncomputable def nxS (S : Nat → Int32) (cu : Nat) : Nat → Int32 := if nxM S cu = 0 then S else nxtS S cu (nxM S cu)
theorem nxM_c {cu : Nat} (hw : WF S) (hc : cu < 4) : nxM S cu = 0 ∨ 0 < nxM S cu ∧ ∃ k, k < 24 ∧ nxM S cu = pN S (cxN S cu) (cyN S cu) k + 1 ∧ (nxM S cu - 1) % 32 = k ∧ (nxM S cu - 1) / 32 = dN S k (cxN S cu) (cyN S cu) ∧ dN S k (cxN S cu) (cyN S cu) ≤ 7938 := by
  obtain ⟨x1, x2, y1, y2⟩ := c_ok hw hc
  unfold nxM
  rcases mA_c S (cxN S cu) (cyN S cu) (loC S cu) 24 with ⟨a1, -⟩ | ⟨k, a1, -, -, a4, -⟩
  · exact Or.inl a1
  · have := (dN_ok hw a1 x1 y1).2
    have e : pN S (cxN S cu) (cyN S cu) k = dN S k (cxN S cu) (cyN S cu) * 32 + k := rfl
    right
    exact ⟨by omega, k, a1, a4, by omega, by omega, this⟩
theorem WF.nxOk {cu : Nat} (hw : WF S) (hc : cu < 4) : WF (nxS S cu) := by
  unfold nxS
  rcases nxM_c hw hc with z | ⟨z, k, k1, k2, k3, k4, k5⟩
  · rw [if_pos z]
    exact hw
  · rw [if_neg (by omega)]
    exact hw.nxt (by omega) (by omega)
theorem m_next6 {cu : Nat} (hn : 60 ≤ n) (g : ClI w h S P c) (hw : WF S) (hc : cu < 4) : ∃ w', ((gfR 5 0 w h).bind fun q26 => (gfR 5 0 w h).bind fun q27 => (gfR 3 7 w q27).bind fun q28 => (agI 0 w q28 (nI cu)).bind fun x29 => (gfR 5 0 w h).bind fun q30 => (gfR 3 5 w q30).bind fun q31 => (agI 0 w q31 (nI cu)).bind fun x32 => (gfR 5 0 w h).bind fun q33 => (gfR 3 6 w q33).bind fun q34 => (agI 0 w q34 (nI cu)).bind fun x35 => (chk 3 w q26).bind fun u36 => (m_X4_pairAfter n w q26 x29 x32 x35).bind fun x37 => if x37 = (-1) then some ((-1 : Int32), w) else (gfR 5 0 w h).bind fun q38 => (gfR 3 7 w q38).bind fun q39 => (asI 0 w q39 (nI cu) x37).bind fun w40 => some ((jrm x37 32), w40)) = some (vnx (nxM S cu), w') ∧ ClI w' h (nxS S cu) P c ∧ FrC w w' h := by
  obtain ⟨F, t, f0, fR⟩ := g.1
  obtain ⟨r1, r2, r3⟩ := fR.2.1 cu hc
  obtain ⟨x1, x2, y1, y2⟩ := c_ok hw hc
  obtain ⟨l1, l2, -⟩ := loC_ok hw hc
  have hm := mA_lt hw (lo := loC S cu) x1 y1 (Nat.le_refl 24)
  rw [g.n0, Option.bind_some, Option.bind_some, f0.q7, Option.bind_some, f0.r7 hc, Option.bind_some, Option.bind_some, f0.q5, Option.bind_some, f0.r5 hc, Option.bind_some, Option.bind_some, f0.q6, Option.bind_some, f0.r6 hc, Option.bind_some, g.ck3, Option.bind_some, r1, r2, r3, x2, y2, l2, m_pairAfter hn g.1 hw x1 y1 (by omega), Option.bind_some]
  rw [show mA S (cxN S cu) (cyN S cu) (loC S cu) 24 = nxM S cu from rfl]
  have hm' : nxM S cu < 400000 := hm
  unfold nxS
  by_cases z : nxM S cu = 0
  · refine ⟨w, ?_, ?_, fun _ _ => rfl⟩
    · rw [if_pos ((laI_m1 (by omega)).mpr z), z]
      rfl
    · rw [if_pos z]
      exact g
  · obtain ⟨w1, e1, f1, q1⟩ := f0.w7 (laI (nxM S cu)) hc
    have gg := g.st ⟨_, t, f1, nxt_R fR (by omega)⟩ q1
    have ec : laI (nxM S cu) = nI (nxM S cu - 1) := if_neg z
    refine ⟨w1, ?_, ?_, gg.2⟩
    · rw [if_neg (fun q => z ((laI_m1 (by omega)).mp q)), Option.bind_some, f0.q7, Option.bind_some, e1, Option.bind_some, ec, show (32 : Int32) = nI 32 from rfl, jrm_nI (by omega) (by decide) (by decide)]
      unfold vnx
      rw [if_neg z]
    · rw [if_neg z]
      exact gg.1.same (same_cu fun k hk => nxt_o (by omega))
theorem k_far2 {b k x y : Nat} {I : Nat → Int32} {J : Nat → Int64} {A : Rw} (m : MoC w b I J A) (h1 : A 0 (5 * k + 1) = S (5 * k + 1)) (h2 : A 0 (5 * k + 2) = S (5 * k + 2)) (hw : WF S) (hk : k < 24) (hx : x < 64) (hy : y < 64) : m_X7_far n w b (nI k) (nI x) (nI y) = some (nI (dN S k x y)) := by
  have s1 : (5 : Int32) * nI k + 1 = nI (5 * k + 1) := e5k k 1
  have s2 : (5 : Int32) * nI k + 2 = nI (5 * k + 2) := e5k k 2
  rw [m_X7_far, s1, s2, m.g0, Option.bind_some, m.r0 (by omega), Option.bind_some, Option.bind_some, m.r0 (by omega), Option.bind_some, h1, h2, (dN_ok hw hk hx hy).1]
theorem k_next7 {b cu : Nat} {I : Nat → Int32} {J : Nat → Int64} {A : Rw} (hn : 60 ≤ n) (m : MoC w b I J A) (hr : Row A S) (hw : WF S) (hc : cu < 4) : ∃ w' A', m_X7_next_p37 n n w b (nI cu) (nI (120 + 5 * cu)) (-1) 0 = some (vnx (nxM S cu), w') ∧ MoC w' b I J A' ∧ Row A' (nxS S cu) ∧ (∀ j k, j ≠ 0 → A' j k = A j k) ∧ Fr w w' b := by
  obtain ⟨x1, x2, y1, y2⟩ := c_ok hw hc
  have s1 : nI (120 + 5 * cu) + 1 = nI (121 + 5 * cu) := (nI_add _ 1).trans (congrArg nI (by omega))
  have s2 : nI (120 + 5 * cu) + 2 = nI (122 + 5 * cu) := (nI_add _ 2).trans (congrArg nI (by omega))
  have s3 : nI (120 + 5 * cu) + 3 = nI (123 + 5 * cu) := (nI_add _ 3).trans (congrArg nI (by omega))
  have s4 : nI (120 + 5 * cu) + 4 = nI (124 + 5 * cu) := (nI_add _ 4).trans (congrArg nI (by omega))
  obtain ⟨z, e, w2, A2, rfl, g2⟩ := lp (σ := Unit) (R := Int32 × Wd) (fun t k _ => m_X7_next_p37 n t w b (nI cu) (nI (120 + 5 * cu)) (vnx (mA S (cxN S cu) (cyN S cu) (loC S cu) k)) (nI k)) (fun _ _ => True) (fun z => ∃ w2 A', z = (vnx (nxM S cu), w2) ∧ MoC w2 b I J A' ∧ Row A' (nxS S cu) ∧ (∀ j k, j ≠ 0 → A' j k = A j k) ∧ Fr w w2 b) 24 (by
    rintro t k ⟨⟩ hk -
    left
    refine ⟨(), ?_, trivial⟩
    have hd := (dN_ok hw hk x1 y1).2
    have ep : pN S (cxN S cu) (cyN S cu) k = dN S k (cxN S cu) (cyN S cu) * 32 + k := rfl
    rw [m_X7_next_p37, if_neg (show ¬ (24 : Int32) ≤ nI k from nI_ge hk (by decide)), m.c, Option.bind_some, k_behind m hr hw hk hc, Option.bind_some]
    show _ = m_X7_next_p37 n t w b (nI cu) (nI (120 + 5 * cu)) (vnx (if herB S k = true ∧ loC S cu ≤ pN S (cxN S cu) (cyN S cu) k ∧ (mA S (cxN S cu) (cyN S cu) (loC S cu) k = 0 ∨ pN S (cxN S cu) (cyN S cu) k + 1 < mA S (cxN S cu) (cyN S cu) (loC S cu) k) then pN S (cxN S cu) (cyN S cu) k + 1 else mA S (cxN S cu) (cyN S cu) (loC S cu) k)) (nI (k + 1))
    have hnew : vnx (pN S (cxN S cu) (cyN S cu) k + 1) = nI k := by
      unfold vnx
      rw [if_neg (by omega), Nat.add_sub_cancel]
      exact congrArg nI (by omega)
    by_cases z : afB S (cxN S cu) (cyN S cu) (loC S cu) k = true
    · have z' := z
      unfold afB at z'
      rw [Bool.and_eq_true, decide_eq_true_eq] at z'
      rw [if_pos z, if_neg ne1.1]
      rcases mA_c S (cxN S cu) (cyN S cu) (loC S cu) k with ⟨a1, -⟩ | ⟨j, a1, a2, a3, a4, a5⟩
      · rw [a1, if_pos (show vnx 0 = -1 from rfl), if_pos ⟨z'.1, z'.2, Or.inl rfl⟩, hnew, nI_1]
      · have hdj := (dN_ok hw (show j < 24 by omega) x1 y1).2
        have ej : pN S (cxN S cu) (cyN S cu) j = dN S j (cxN S cu) (cyN S cu) * 32 + j := rfl
        have ev : vnx (mA S (cxN S cu) (cyN S cu) (loC S cu) k) = nI j := by
          unfold vnx
          rw [if_neg (by omega)]
          exact congrArg nI (by omega)
        have t1 := m.r0 (k := 120 + 5 * cu) (by omega)
        have t2 := m.r0 (k := 121 + 5 * cu) (by omega)
        rw [hr _ (by omega), x2] at t1
        rw [hr _ (by omega), y2] at t2
        rw [ev, if_neg (nI_m1 (by omega)), m.g0]
        simp only [Option.bind_some, s1, t1, t2, k_far m hr hw hk x1 y1, k_far m hr hw (show j < 24 by omega) x1 y1]
        by_cases g : dN S j (cxN S cu) (cyN S cu) ≤ dN S k (cxN S cu) (cyN S cu)
        · rw [if_pos (nI_le g (by omega)), if_neg (fun q => by omega), ev, nI_1]
        · rw [if_neg (nI_ge (by omega) (by omega)), if_pos ⟨z'.1, z'.2, Or.inr (by omega)⟩, hnew, nI_1]
    · rw [if_neg z, if_pos rfl, if_neg (fun q => z (by unfold afB; rw [q.1, decide_eq_true q.2.1]; rfl)), nI_1]) (by
    rintro t ⟨⟩ -
    show ∃ r, m_X7_next_p37 n (t + 1) w b (nI cu) (nI (120 + 5 * cu)) (vnx (nxM S cu)) (nI 24) = some r ∧ _
    rw [m_X7_next_p37, if_pos (by decide), m_X7_next_p126]
    unfold nxS
    rcases nxM_c hw hc with z | ⟨z, k, k1, k2, k3, k4, k5⟩
    · rw [z, if_pos (show vnx 0 = -1 from rfl), if_pos rfl]
      exact ⟨_, rfl, w, A, rfl, m, hr, fun _ _ _ => rfl, fun _ _ => rfl⟩
    · have ev : vnx (nxM S cu) = nI k := by
        unfold vnx
        rw [if_neg (by omega), k3]
      obtain ⟨w1, e1, m1, q1⟩ := m.w0 1 (k := 122 + 5 * cu) (by omega)
      obtain ⟨w2, e2, m2, q2⟩ := m1.w0 (nI (dN S k (cxN S cu) (cyN S cu))) (k := 123 + 5 * cu) (by omega)
      obtain ⟨w3, e3, m3, q3⟩ := m2.w0 (nI k) (k := 124 + 5 * cu) (by omega)
      rw [ev, if_neg (nI_m1 (by omega)), if_neg (show ¬ nxM S cu = 0 by omega)]
      refine ⟨(nI k, w3), ?_, w3, _, rfl, m3, fun p hp => ?_, fun j p hj => by rw [setF_row hj, setF_row hj, setF_row hj], fun q hq => (q3 q hq).trans ((q2 q hq).trans (q1 q hq))⟩
      · have a0 : setF A 0 (122 + 5 * cu) 1 0 (120 + 5 * cu) = nI (cxN S cu) := by rw [setF_col (by omega), hr _ (by omega), x2]
        have a1 : setF A 0 (122 + 5 * cu) 1 0 (121 + 5 * cu) = nI (cyN S cu) := by rw [setF_col (by omega), hr _ (by omega), y2]
        rw [s1, s2, s3, s4, m.g0, Option.bind_some, e1, Option.bind_some, m1.g0, Option.bind_some, Option.bind_some, m1.r0 (by omega), Option.bind_some, Option.bind_some, m1.r0 (by omega), Option.bind_some, m1.c, Option.bind_some, a0, a1, k_far2 m1 (by rw [setF_col (by omega), hr _ (by omega)]) (by rw [setF_col (by omega), hr _ (by omega)]) hw k1 x1 y1, Option.bind_some, e2, Option.bind_some, m2.g0, Option.bind_some, e3, Option.bind_some]
      · simp only [setF_at, nxtS, upd, true_and]
        rw [hr p hp, k4, k3]) 24 0 n () rfl (by omega) trivial
  exact ⟨w2, A2, e, g2⟩
theorem B_next (hn : 600 ≤ n) (H : InvK h w) : ∃ w', mc_14 K n w h (h + 87) (h + 97) xs i = some w' ∧ InvK h w' := by
  obtain ⟨S, P, c, L, B, r, H⟩ := H
  generalize ea : xs (Int32.toNatClampNeg (i + 1)) = a
  show ∃ w', mcF (fun w1 => m_X7_next n w1 (h + 87) (xs (Int32.toNatClampNeg (i + 1)))) (m_L_next n w h (xs (Int32.toNatClampNeg (i + 1))) (h + 97)) n (h + 87) (h + 97) = some w' ∧ _
  rw [ea]
  have H0 := H
  obtain ⟨hw, g, sc, M, o⟩ := H
  rcases ins_c a (m := 3) (by decide) with h1 | ⟨h1, cu, hcu, rfl⟩
  · obtain ⟨w3, f3, m3, q3⟩ := k_no (n := n) (k := 1) pos1.1 M
    refine case_no (v := 0) H0 ne1.1 ?_ ⟨w3, ?_, m3, q3⟩
    · rw [m_L_next, g.ck, Option.bind_some, q_X6_next, if_pos (show m_X6_inside a 0 3 = 0 from h1), Option.bind_some, if_neg ne1.1, if_pos rfl]
    · rw [m_X7_next, if_pos (show m_X7_isCursor a = 0 from h1), M.ck, Option.bind_some, f3, Option.bind_some, if_neg ne1.1]
  · have h1' : ¬ m_X6_inside (nI cu) 0 3 = 0 := fun q => absurd (h1.symm.trans q) (by decide)
    have hc : cu < 4 := by omega
    obtain ⟨w1, e1, g1, q1⟩ := m_push6 (n := n) (by omega) g hw
    obtain ⟨w2, e2, g2, q2⟩ := m_next6 (n := n) (by omega) g1 hw hc
    refine case_ok H0 (w1 := w2) (v := vnx (nxM S cu)) ?_ (hw.nxOk hc) g2 (sc.frame fun z a b => (q2 z (by omega)).trans (q1 z (by omega))) (fun z hz => (q2 z (by omega)).trans (q1 z (by omega))) fun v2 m2 => ?_
    · rw [m_L_next, g.ck, Option.bind_some, q_X6_next, if_neg h1', Option.bind_some, if_pos rfl, m_X6_next, if_neg h1', throw0, Option.bind_some, g.n1, Option.bind_some, g.n0, Option.bind_some, g.ck4, Option.bind_some, e1, Option.bind_some, e2, Option.bind_some]
    · obtain ⟨u1, u2, I, J, A, f1, c1, f2, c2, m3, q3⟩ := k_start (n := n) hn m2
      obtain ⟨u3, A3, f3, m4, r4, a4, q4⟩ := k_next7 (n := n) (by omega) m3.1 m3.2.1 hw hc
      refine ⟨u3, ?_, ⟨I, J, A3, m3.to m4 r4 (fun _ _ => rfl) fun j k hj => a4 j k (by omega)⟩, fun z hz => (q4 z hz).trans (q3 z hz)⟩
      rw [m_X7_next, if_neg (show ¬ m_X7_isCursor (nI cu) = 0 from h1'), m2.ck, Option.bind_some, f1, Option.bind_some, if_pos rfl, c1, Option.bind_some, f2, Option.bind_some, e120, f3]
end NX
