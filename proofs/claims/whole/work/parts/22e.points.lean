/-! point, level, node, child -/
theorem rv_c (a x : Int32) {m g : Nat} (hm : m + 1 < 2 ^ 31) (hg : g < 2 ^ 31) : (m_X6_inside a 0 (nI m) = 0 ∧ m_X6_refusalOfValue a (nI (m + 1)) x (nI g) = 1) ∨ (m_X6_inside a 0 (nI m) = 1 ∧ (∃ i, i ≤ m ∧ a = nI i) ∧ m_X6_inside x 0 (nI g) = 0 ∧ m_X6_refusalOfValue a (nI (m + 1)) x (nI g) = 2) ∨ (m_X6_inside a 0 (nI m) = 1 ∧ m_X6_inside x 0 (nI g) = 1 ∧ m_X6_refusalOfValue a (nI (m + 1)) x (nI g) = 0 ∧ ∃ i j, i ≤ m ∧ j ≤ g ∧ a = nI i ∧ x = nI j) := by
  unfold m_X6_refusalOfValue
  rw [nI_pred]
  rcases ins_c a (m := m) (by omega) with h1 | ⟨h1, i, hi, rfl⟩
  · exact Or.inl ⟨h1, if_pos h1⟩
  · have h1' : ¬ m_X6_inside (nI i) 0 (nI m) = 0 := by rw [h1]; decide
    rw [if_neg h1']
    rcases ins_c x hg with h2 | ⟨h2, j, hj, rfl⟩
    · exact Or.inr (Or.inl ⟨h1, ⟨i, hi, rfl⟩, h2, if_pos h2⟩)
    · have h2' : ¬ m_X6_inside (nI j) 0 (nI g) = 0 := by rw [h2]; decide
      rw [if_neg h2']
      exact Or.inr (Or.inr ⟨h1, h2, rfl, i, j, hi, hj, rfl, rfl⟩)
theorem rv_0 {i j m g : Nat} (hm : m + 1 < 2 ^ 31) (hg : g < 2 ^ 31) (hi : i ≤ m) (hj : j ≤ g) : m_X6_refusalOfValue (nI i) (nI (m + 1)) (nI j) (nI g) = 0 := by
  unfold m_X6_refusalOfValue
  rw [nI_pred, ins_1 (by omega) hi, if_neg (by decide), ins_1 hg hj, if_neg (by decide)]
def ptV (S : Nat → Int32) (i what : Nat) : Int32 := if what = 5 then nI (hgt i) else S (5 * i + what)
section PT
variable {n h c L : Nat} {w : Wd} {S : Nat → Int32} {P : Nat → Nat → Int32} {B : Nat → Int32} {r : Int32} {K : Nat → Nat} {xs : Nat → Int32} {i : Int32}
theorem ClJ.fo {S' : Nat → Int32} (g : ClJ w h S S' P c) : ∃ fo, gfR 5 3 w h = some fo ∧ FoC w fo S := by
  obtain ⟨-, -, fo, sp, -, h4, h5, -⟩ := g
  exact ⟨fo, gfR_at h4 rfl, h5⟩
theorem m_point6 {id what : Nat} (hn : 60 ≤ n) (g : ClI w h S P c) (hw : WF S) (hi : id < 24) (hwh : what < 6) : m_X6_point n w h (nI id) (nI what) = some (ptV S id what) := by
  obtain ⟨F, t, f0, fR⟩ := g.1
  rw [m_X6_point, show (24 : Int32) = nI (23 + 1) from rfl, show (5 : Int32) = nI 5 from rfl, rv_0 (by decide) (by decide) (by omega) (by omega), throw0, Option.bind_some]
  rcases (show what = 0 ∨ what = 1 ∨ what = 2 ∨ what = 3 ∨ what = 4 ∨ what = 5 by omega) with rfl | rfl | rfl | rfl | rfl | rfl
  · rw [if_pos (by decide), g.n0, Option.bind_some, f0.q0, Option.bind_some, f0.r0 hi, Option.bind_some, fR.1 0 id (by decide) hi]
    show (if S (5 * id) = 0 then some 0 else some 1) = some (S (5 * id))
    rcases (hw.1 id hi).1 with e | e
    · rw [e]; rfl
    · rw [e]; rfl
  · rw [if_neg (by decide), if_pos (by decide), g.n0, Option.bind_some, f0.q1, Option.bind_some, f0.r1 hi, Option.bind_some, fR.1 1 id (by decide) hi]; rfl
  · rw [if_neg (by decide), if_neg (by decide), if_pos (by decide), g.n0, Option.bind_some, f0.q2, Option.bind_some, f0.r2 hi, Option.bind_some, fR.1 2 id (by decide) hi]; rfl
  · rw [if_neg (by decide), if_neg (by decide), if_neg (by decide), if_pos (by decide), g.n0, Option.bind_some, f0.q3, Option.bind_some, f0.r3 hi, Option.bind_some, fR.1 3 id (by decide) hi]; rfl
  · rw [if_neg (by decide), if_neg (by decide), if_neg (by decide), if_neg (by decide), if_pos (by decide), g.n0, Option.bind_some, f0.q4, Option.bind_some, f0.r4 hi, Option.bind_some, fR.1 4 id (by decide) hi]; rfl
  · rw [if_neg (by decide), if_neg (by decide), if_neg (by decide), if_neg (by decide), if_neg (by decide), m_hgt6 (by omega) hi, Option.bind_some]; rfl
theorem k_tellPoint {b id what : Nat} {I : Nat → Int32} {J : Nat → Int64} {A : Rw} (hn : 60 ≤ n) (m : MoC w b I J A) (hr : Row A S) (hi : id < 24) (hwh : what < 6) : m_X7_tellPoint n w b (nI id) (nI what) = some (ptV S id what) := by
  rw [m_X7_tellPoint, ptV]
  by_cases e : what = 5
  · subst e
    rw [if_pos (show nI 5 = 5 from rfl), if_pos rfl, m_hgt7 (by omega) hi, Option.bind_some]
  · rw [if_neg (show ¬ nI what = 5 from fun q => e ((nI_eq (b := 5) (by omega) (by decide)).mp q)), if_neg e, m.g0, Option.bind_some, e5k, m.r0 (by omega), Option.bind_some, hr _ (by omega)]
theorem B_point (hn : 600 ≤ n) (H : InvK h w) : ∃ w', mc_6 K n w h (h + 87) (h + 97) xs i = some w' ∧ InvK h w' := by
  obtain ⟨S, P, c, L, B, r, H⟩ := H
  generalize ea : xs (Int32.toNatClampNeg (i + 1)) = a
  generalize ex : xs (Int32.toNatClampNeg (i + 2)) = x
  show ∃ w', mcF (fun w1 => m_X7_point n w1 (h + 87) (xs (Int32.toNatClampNeg (i + 1))) (xs (Int32.toNatClampNeg (i + 2)))) (m_L_point n w h (xs (Int32.toNatClampNeg (i + 1))) (xs (Int32.toNatClampNeg (i + 2))) (h + 97)) n (h + 87) (h + 97) = some w' ∧ _
  rw [ea, ex]
  have H0 := H
  obtain ⟨hw, g, sc, M, o⟩ := H
  rcases rv_c a x (m := 23) (g := 5) (by decide) (by decide) with ⟨h1, h3⟩ | ⟨h1, -, h2, h3⟩ | ⟨h1, h2, h3, id, wh, h4, h5, rfl, rfl⟩
  · have h3' : m_X6_refusalOfValue a 24 x 5 = 1 := h3
    obtain ⟨w3, f3, m3, q3⟩ := k_no (n := n) (k := 1) pos1.1 M
    refine case_no (v := 0) H0 ne1.1 ?_ ⟨w3, ?_, m3, q3⟩
    · rw [m_L_point, g.ck, Option.bind_some, q_X6_point, h3', Option.bind_some, if_neg ne1.1, if_pos rfl]
    · rw [m_X7_point, if_pos (show m_X7_isId a = 0 from h1), M.ck, Option.bind_some, f3, Option.bind_some, if_neg ne1.1]
  · have h3' : m_X6_refusalOfValue a 24 x 5 = 2 := h3
    obtain ⟨w3, f3, m3, q3⟩ := k_no (n := n) (k := 2) pos1.2.1 M
    refine case_no (v := 0) H0 ne1.2.1 ?_ ⟨w3, ?_, m3, q3⟩
    · rw [m_L_point, g.ck, Option.bind_some, q_X6_point, h3', Option.bind_some, if_neg ne1.2.1, if_neg ne1.2.2.2.1, if_pos rfl]
    · rw [m_X7_point, if_neg (show ¬ m_X7_isId a = 0 from fun q => absurd (h1.symm.trans q) (by decide)), if_pos (show m_X7_in x 0 5 = 0 from h2), M.ck, Option.bind_some, f3, Option.bind_some, if_neg ne1.1]
  · have h3' : m_X6_refusalOfValue (nI id) 24 (nI wh) 5 = 0 := h3
    refine case_ok H0 (w1 := w) (v := ptV S id wh) ?_ hw g sc (fun _ _ => rfl) fun v2 m2 => ?_
    · rw [m_L_point, g.ck, Option.bind_some, q_X6_point, h3', Option.bind_some, if_pos rfl, m_point6 (by omega) g hw (by omega) (by omega), Option.bind_some]
    · obtain ⟨I, J, A, m⟩ := m2
      obtain ⟨u1, f1, m1, q1⟩ := k_ref0 (n := n) m
      refine ⟨u1, ?_, ⟨_, _, _, m1⟩, q1⟩
      rw [m_X7_point, if_neg (show ¬ m_X7_isId (nI id) = 0 from fun q => absurd (h1.symm.trans q) (by decide)), if_neg (show ¬ m_X7_in (nI wh) 0 5 = 0 from fun q => absurd (h2.symm.trans q) (by decide)), m.ck, Option.bind_some, f1, Option.bind_some, if_pos rfl, m1.ck, Option.bind_some, k_tellPoint (by omega) m1.1 m1.2.1 (by omega) (by omega), Option.bind_some]
theorem k_lays {b : Nat} {I : Nat → Int32} {J : Nat → Int64} {A : Rw} (hn : 60 ≤ n) (m : Mo w b I J A S P c L B r) (hw : WF S) : ∃ w' A', m_X7_lays n w b = some w' ∧ Mo w' b I J A' S P c L B r ∧ (∀ l, l < 5 → Tb A' 4 5 l (nds S l)) ∧ Fr w w' b := by
  obtain ⟨w1, e1, ⟨A1, h1, t1, a1⟩, q1⟩ := m_lays hn m.1 m.2.1 hw
  exact ⟨w1, A1, e1, m.to h1 (fun k hk => (a1 0 k (by decide) (by decide)).trans (m.2.1 k hk)) (fun _ _ => rfl) fun j k hj => a1 j k (by omega) (by omega), t1, q1⟩
theorem cB_pc {cs : List Nat} {l k : Nat} (hp : cs.Perm (cdS S l)) {qs : List Nat} : cB (pcB cs qs) k = cB (pcB (cdS S l) qs) k := cB_cong fun i _ => by
  unfold pcB
  rw [kidN_perm hp]
theorem m_level6 {l what : Nat} (hn : 200 ≤ n) (g : ClI w h S P c) (hw : WF S) (hl : l < 5) (hwh : what < 5) : m_X6_level n w h (nI l) (nI what) = some (nI (lvV S l what)) := by
  obtain ⟨fo, e0, fc⟩ := g.fo
  obtain ⟨cs, a1, a2, a3, a4, a5⟩ := fc.lev hw hl
  rw [m_X6_level, show (5 : Int32) = nI (4 + 1) from rfl, show (4 : Int32) = nI 4 from rfl, rv_0 (by decide) (by decide) (by omega) (by omega), throw0, Option.bind_some, e0, Option.bind_some, fc.1.lv hl]
  rcases i5 hwh with rfl | rfl | rfl | rfl | rfl
  · rw [if_pos (by decide), a1.i1, Option.bind_some, a2.length_eq]; rfl
  · rw [if_neg (by decide), if_pos (by decide), a1.i3, Option.bind_some]; rfl
  · rw [if_neg (by decide), if_neg (by decide), if_pos (by decide), a1.c, Option.bind_some, m_gdepth (by omega) a1 a4 a5, Option.bind_some]; rfl
  · rw [if_neg (by decide), if_neg (by decide), if_neg (by decide), if_pos (by decide), a1.c, Option.bind_some, m_posch (by omega) a1 a3 a4 a5, Option.bind_some, cB_pc a2]; rfl
  · rw [if_neg (by decide), if_neg (by decide), if_neg (by decide), if_neg (by decide), a1.c, Option.bind_some, m_diffp (by omega) a1 a3 a4, Option.bind_some, dsN_mem fun c => a2.mem_iff]; rfl
theorem B_level (hn : 600 ≤ n) (H : InvK h w) : ∃ w', mc_7 K n w h (h + 87) (h + 97) xs i = some w' ∧ InvK h w' := by
  obtain ⟨S, P, c, L, B, r, H⟩ := H
  generalize ea : xs (Int32.toNatClampNeg (i + 1)) = a
  generalize ex : xs (Int32.toNatClampNeg (i + 2)) = x
  show ∃ w', mcF (fun w1 => m_X7_level n w1 (h + 87) (xs (Int32.toNatClampNeg (i + 1))) (xs (Int32.toNatClampNeg (i + 2)))) (m_L_level n w h (xs (Int32.toNatClampNeg (i + 1))) (xs (Int32.toNatClampNeg (i + 2))) (h + 97)) n (h + 87) (h + 97) = some w' ∧ _
  rw [ea, ex]
  have H0 := H
  obtain ⟨hw, g, sc, M, o⟩ := H
  rcases rv_c a x (m := 4) (g := 4) (by decide) (by decide) with ⟨h1, h3⟩ | ⟨h1, -, h2, h3⟩ | ⟨h1, h2, h3, l, wh, h4, h5, rfl, rfl⟩
  · have h3' : m_X6_refusalOfValue a 5 x 4 = 1 := h3
    obtain ⟨w3, f3, m3, q3⟩ := k_no (n := n) (k := 1) pos1.1 M
    refine case_no (v := 0) H0 ne1.1 ?_ ⟨w3, ?_, m3, q3⟩
    · rw [m_L_level, g.ck, Option.bind_some, q_X6_level, h3', Option.bind_some, if_neg ne1.1, if_pos rfl]
    · rw [m_X7_level, if_pos (show m_X7_isLevel a = 0 from h1), M.ck, Option.bind_some, f3, Option.bind_some, if_neg ne1.1]
  · have h3' : m_X6_refusalOfValue a 5 x 4 = 2 := h3
    obtain ⟨w3, f3, m3, q3⟩ := k_no (n := n) (k := 2) pos1.2.1 M
    refine case_no (v := 0) H0 ne1.2.1 ?_ ⟨w3, ?_, m3, q3⟩
    · rw [m_L_level, g.ck, Option.bind_some, q_X6_level, h3', Option.bind_some, if_neg ne1.2.1, if_neg ne1.2.2.2.1, if_pos rfl]
    · rw [m_X7_level, if_neg (show ¬ m_X7_isLevel a = 0 from fun q => absurd (h1.symm.trans q) (by decide)), if_pos (show m_X7_in x 0 4 = 0 from h2), M.ck, Option.bind_some, f3, Option.bind_some, if_neg ne1.1]
  · have h3' : m_X6_refusalOfValue (nI l) 5 (nI wh) 4 = 0 := h3
    refine case_ok H0 (w1 := w) (v := nI (lvV S l wh)) ?_ hw g sc (fun _ _ => rfl) fun v2 m2 => ?_
    · rw [m_L_level, g.ck, Option.bind_some, q_X6_level, h3', Option.bind_some, if_pos rfl, m_level6 (by omega) g hw (by omega) (by omega), Option.bind_some]
    · obtain ⟨I, J, A, m⟩ := m2
      obtain ⟨u1, f1, m1, q1⟩ := k_ref0 (n := n) m
      obtain ⟨u2, A2, f2, m2, t2, q2⟩ := k_lays (n := n) (by omega) m1 hw
      obtain ⟨u3, I3, f3, m3, i3, q3⟩ := k_tellLevel (n := n) (what := wh) (by omega) m2.1 m2.2.1 hw (show l < 5 by omega) (t2 l (by omega)) (by omega)
      refine ⟨u3, ?_, ⟨I3, J, A2, m2.to m3 m2.2.1 (fun k hk => i3 k (by omega)) fun _ _ _ => rfl⟩, fun z hz => (q3 z hz).trans ((q2 z hz).trans (q1 z hz))⟩
      rw [m_X7_level, if_neg (show ¬ m_X7_isLevel (nI l) = 0 from fun q => absurd (h1.symm.trans q) (by decide)), if_neg (show ¬ m_X7_in (nI wh) 0 4 = 0 from fun q => absurd (h2.symm.trans q) (by decide)), m.ck, Option.bind_some, f1, Option.bind_some, if_pos rfl, m1.ck, Option.bind_some, f2, Option.bind_some, m2.ck, Option.bind_some, f3, Option.bind_some]
theorem nds_pos (hw : WF S) (l : Nat) : 0 < (nds S l).length := List.length_pos_of_mem (((nds_of hw l).2 0).mpr (Or.inl rfl))
theorem m_node6 {l id what : Nat} (hn : 200 ≤ n) (g : ClI w h S P c) (hw : WF S) (hl : l < 5) (hi : id < (nds S l).length) (hwh : what < 6) : m_X6_refusalOfNode n w h (nI l) (nI id) (nI what) 5 = some 0 ∧ m_X6_node n w h (nI l) (nI id) (nI what) = some (ndV S l id what) := by
  obtain ⟨fo, e0, fc⟩ := g.fo
  obtain ⟨cs, a1, a2, a3, a4, a5⟩ := fc.lev hw hl
  have h24 := nds_len hw l
  obtain ⟨p1, p2, p3, p4⟩ := node_m a4 (a5.at hi)
  have e1 : m_X6_refusalOfNode n w h (nI l) (nI id) (nI what) 5 = some 0 := by
    rw [m_X6_refusalOfNode, show m_X6_inside (nI l) 0 4 = 1 from ins_1 (m := 4) (by decide) (by omega), if_neg ne1.1, e0, Option.bind_some, fc.1.lv hl, a1.i3, Option.bind_some, show (nds S l).length = (nds S l).length - 1 + 1 by omega, show (5 : Int32) = nI 5 from rfl, rv_0 (by omega) (by decide) (by omega) (by omega)]
  refine ⟨e1, ?_⟩
  rw [m_X6_node, g.ck, Option.bind_some, e1, Option.bind_some, throw0, Option.bind_some, e0, Option.bind_some, fc.1.lv hl, a1.g2, Option.bind_some, a1.sqr hi, Option.bind_some]
  rcases (show what = 0 ∨ what = 1 ∨ what = 2 ∨ what = 3 ∨ what = 4 ∨ what = 5 by omega) with rfl | rfl | rfl | rfl | rfl | rfl
  · rw [if_pos (by decide), sq_corner (by omega), (xy6_all _ p4).1.1]; rfl
  · rw [if_neg (by decide), if_pos (by decide), sq_corner (by omega), (xy6_all _ p4).2.1]; rfl
  · rw [if_neg (by decide), if_neg (by decide), if_pos (by decide)]; rfl
  · rw [if_neg (by decide), if_neg (by decide), if_neg (by decide), if_pos (by decide), a1.c, Option.bind_some, m_depth (by omega) a1 a4 a5 hi, Option.bind_some]; rfl
  · rw [if_neg (by decide), if_neg (by decide), if_neg (by decide), if_neg (by decide), if_pos (by decide), a1.c, Option.bind_some, m_points (by omega) a1 a4 (a5.at hi), Option.bind_some, (a2.filter _).length_eq]; rfl
  · rw [if_neg (by decide), if_neg (by decide), if_neg (by decide), if_neg (by decide), if_neg (by decide), a1.c, Option.bind_some, m_quads (by omega) a1 a4 (a5.at hi), Option.bind_some, show qdN cs ((nds S l).getD id 0) = qdN (cdS S l) ((nds S l).getD id 0) from cB_cong fun d _ => by rw [kidN_perm a2]]; rfl
noncomputable def chV (S : Nat → Int32) (l id d : Nat) : Int32 := tell (nds S l) (kidN (cdS S l) ((nds S l).getD id 0) d)
theorem m_child6 {l id d : Nat} (hn : 200 ≤ n) (g : ClI w h S P c) (hw : WF S) (hl : l < 5) (hi : id < (nds S l).length) (hd : d < 4) : m_X6_refusalOfNode n w h (nI l) (nI id) (nI d) 3 = some 0 ∧ m_X6_child n w h (nI l) (nI id) (nI d) = some (chV S l id d) := by
  obtain ⟨fo, e0, fc⟩ := g.fo
  obtain ⟨cs, a1, a2, a3, a4, a5⟩ := fc.lev hw hl
  have h24 := nds_len hw l
  have e1 : m_X6_refusalOfNode n w h (nI l) (nI id) (nI d) 3 = some 0 := by
    rw [m_X6_refusalOfNode, show m_X6_inside (nI l) 0 4 = 1 from ins_1 (m := 4) (by decide) (by omega), if_neg ne1.1, e0, Option.bind_some, fc.1.lv hl, a1.i3, Option.bind_some, show (nds S l).length = (nds S l).length - 1 + 1 by omega, show (3 : Int32) = nI 3 from rfl, rv_0 (by omega) (by decide) (by omega) (by omega)]
  refine ⟨e1, ?_⟩
  rw [m_X6_child, g.ck, Option.bind_some, e1, Option.bind_some, throw0, Option.bind_some, e0, Option.bind_some, fc.1.lv hl, a1.c, Option.bind_some, m_child (by omega) a1 a3 a4 a5 hi hd, Option.bind_some, kidN_perm a2]
  rfl
/-- what both refuse of a node -/
theorem rn_c {a x y : Int32} {gr : Nat} (hn : 200 ≤ n) (g : ClI w h S P c) (hw : WF S) (hg : gr < 2 ^ 31) :
    (m_X6_refusalOfNode n w h a x y (nI gr) = some 1 ∧ (m_X6_inside a 0 4 = 0 ∨ ∃ l, l < 5 ∧ a = nI l ∧ m_X6_inside x 0 (nI ((nds S l).length - 1)) = 0)) ∨
    (∃ l id, l < 5 ∧ id < (nds S l).length ∧ a = nI l ∧ x = nI id ∧ (m_X6_refusalOfNode n w h a x y (nI gr) = some 2 ∧ m_X6_inside y 0 (nI gr) = 0 ∨ m_X6_refusalOfNode n w h a x y (nI gr) = some 0 ∧ ∃ d, d ≤ gr ∧ y = nI d)) := by
  rcases ins_c a (m := 4) (by decide) with h1 | ⟨h1, l, hl, rfl⟩
  · left
    exact ⟨by rw [m_X6_refusalOfNode, if_pos (show m_X6_inside a 0 4 = 0 from h1)], Or.inl h1⟩
  · obtain ⟨fo, e0, fc⟩ := g.fo
    obtain ⟨cs, a1, a2, a3, a4, a5⟩ := fc.lev hw (show l < 5 by omega)
    have h24 := nds_len hw l
    have hp := nds_pos hw l
    have e1 : m_X6_refusalOfNode n w h (nI l) x y (nI gr) = some (m_X6_refusalOfValue x (nI ((nds S l).length - 1 + 1)) y (nI gr)) := by
      rw [m_X6_refusalOfNode, show m_X6_inside (nI l) 0 4 = 1 from h1, if_neg ne1.1, e0, Option.bind_some, fc.1.lv (by omega), a1.i3, Option.bind_some, show (nds S l).length - 1 + 1 = (nds S l).length by omega]
    rw [e1]
    rcases rv_c x y (m := (nds S l).length - 1) (g := gr) (by omega) hg with ⟨b1, b3⟩ | ⟨-, ⟨id, b0, rfl⟩, b2, b3⟩ | ⟨b1, b2, b3, id, d, b4, b5, rfl, rfl⟩
    · left
      exact ⟨by rw [b3], Or.inr ⟨l, by omega, rfl, b1⟩⟩
    · right
      exact ⟨l, id, by omega, by omega, rfl, rfl, Or.inl ⟨by rw [b3], b2⟩⟩
    · right
      exact ⟨l, id, by omega, by omega, rfl, rfl, Or.inr ⟨by rw [b3], d, b5, rfl⟩⟩
theorem k_nodeOf {b : Nat} {I : Nat → Int32} {J : Nat → Int64} {A : Rw} {a x : Int32} (hn : 60 ≤ n) (m : Mo w b I J A S P c L B r) (hw : WF S) : ∃ w' A' v, m_X7_isNodeOf n w b a x = some (v, w') ∧ Mo w' b I J A' S P c L B r ∧ (∀ l, l < 5 → Tb A' 4 5 l (nds S l)) ∧ Fr w w' b ∧ ((m_X6_inside a 0 4 = 0 ∨ ∃ l, l < 5 ∧ a = nI l ∧ m_X6_inside x 0 (nI ((nds S l).length - 1)) = 0) → v = 0) ∧ ((∃ l id, l < 5 ∧ id < (nds S l).length ∧ a = nI l ∧ x = nI id) → v = 1) := by
  obtain ⟨w1, A1, e1, m1, t1, q1⟩ := k_lays hn m hw
  rcases ins_c a (m := 4) (by decide) with h1 | ⟨h1, l, hl, rfl⟩
  · refine ⟨w1, A1, 0, ?_, m1, t1, q1, fun _ => rfl, fun ⟨l, id, a1, a2, a3, a4⟩ => ?_⟩
    · rw [m_X7_isNodeOf, m.ck, Option.bind_some, e1, Option.bind_some, if_pos (show m_X7_isLevel a = 0 from h1)]
    · rw [a3, ins_1 (m := 4) (by decide) (by omega)] at h1
      exact absurd h1 ne1.1
  · have hp := nds_pos hw l
    have h24 := nds_len hw l
    have hl5 : l < 5 := by omega
    have es : nI (nds S l).length - 1 = nI ((nds S l).length - 1) := pk_sub (b := 1) hp
    have base : m_X7_isNodeOf n w b (nI l) x = if m_X6_inside x 0 (nI ((nds S l).length - 1)) = 0 then some (0, w1) else some (1, w1) := by
      rw [m_X7_isNodeOf, m.ck, Option.bind_some, e1, Option.bind_some, if_neg (show ¬ m_X7_isLevel (nI l) = 0 from fun q => absurd (h1.symm.trans q) (by decide)), m1.1.g8, Option.bind_some, m1.1.r8 hl5, Option.bind_some, (t1 l hl5).1, es]
      rfl
    rw [base]
    rcases ins_c x (m := (nds S l).length - 1) (by omega) with b1 | ⟨b1, id, hid, rfl⟩
    · refine ⟨w1, A1, 0, by rw [if_pos b1], m1, t1, q1, fun _ => rfl, fun ⟨l', id, a1, a2, a3, a4⟩ => ?_⟩
      have : l = l' := (nI_eq (by omega) (by omega)).mp a3
      subst this
      rw [a4, ins_1 (by omega) (by omega)] at b1
      exact absurd b1 ne1.1
    · refine ⟨w1, A1, 1, by rw [b1, if_neg ne1.1], m1, t1, q1, fun z => ?_, fun _ => rfl⟩
      rcases z with z | ⟨l', z1, z2, z3⟩
      · rw [show m_X6_inside (nI l) 0 4 = 1 from h1] at z
        exact absurd z ne1.1
      · have : l = l' := (nI_eq (by omega) (by omega)).mp z2
        subst this
        rw [b1] at z3
        exact absurd z3 ne1.1
theorem B_node (hn : 600 ≤ n) (H : InvK h w) : ∃ w', mc_8 K n w h (h + 87) (h + 97) xs i = some w' ∧ InvK h w' := by
  obtain ⟨S, P, c, L, B, r, H⟩ := H
  generalize ea : xs (Int32.toNatClampNeg (i + 1)) = a
  generalize ex : xs (Int32.toNatClampNeg (i + 2)) = x
  generalize ey : xs (Int32.toNatClampNeg (i + 3)) = y
  show ∃ w', mcF (fun w1 => m_X7_node n w1 (h + 87) (xs (Int32.toNatClampNeg (i + 1))) (xs (Int32.toNatClampNeg (i + 2))) (xs (Int32.toNatClampNeg (i + 3)))) (m_L_node n w h (xs (Int32.toNatClampNeg (i + 1))) (xs (Int32.toNatClampNeg (i + 2))) (xs (Int32.toNatClampNeg (i + 3))) (h + 97)) n (h + 87) (h + 97) = some w' ∧ _
  rw [ea, ex, ey]
  have H0 := H
  obtain ⟨hw, g, sc, M, o⟩ := H
  rcases rn_c (n := n) (a := a) (x := x) (y := y) (gr := 5) (by omega) g hw (by decide) with ⟨b1, b2⟩ | ⟨l, id, b1, b2, rfl, rfl, ⟨b3, b4⟩ | ⟨b3, d, b4, rfl⟩⟩
  · obtain ⟨I, J, A, m⟩ := M
    obtain ⟨u1, A1, v, f1, m1, t1, q1, z0, -⟩ := k_nodeOf (n := n) (a := a) (x := x) (by omega) m hw
    obtain ⟨w3, f3, m3, q3⟩ := k_no (n := n) (k := 1) pos1.1 ⟨_, _, _, m1⟩
    refine case_no (v := 0) H0 ne1.1 ?_ ⟨w3, ?_, m3, fun z hz => (q3 z hz).trans (q1 z hz)⟩
    · rw [m_L_node, g.ck, Option.bind_some, q_X6_node, g.ck, Option.bind_some, show m_X6_refusalOfNode n w h a x y 5 = some 1 from b1, Option.bind_some, Option.bind_some, if_neg ne1.1, if_pos rfl]
    · rw [m_X7_node, m.ck, Option.bind_some, f1, z0 b2, Option.bind_some, if_pos rfl, m1.ck, Option.bind_some, f3, Option.bind_some, if_neg ne1.1]
  · obtain ⟨I, J, A, m⟩ := M
    obtain ⟨u1, A1, v, f1, m1, t1, q1, -, z1⟩ := k_nodeOf (n := n) (a := nI l) (x := nI id) (by omega) m hw
    obtain ⟨w3, f3, m3, q3⟩ := k_no (n := n) (k := 2) pos1.2.1 ⟨_, _, _, m1⟩
    refine case_no (v := 0) H0 ne1.2.1 ?_ ⟨w3, ?_, m3, fun z hz => (q3 z hz).trans (q1 z hz)⟩
    · rw [m_L_node, g.ck, Option.bind_some, q_X6_node, g.ck, Option.bind_some, show m_X6_refusalOfNode n w h (nI l) (nI id) y 5 = some 2 from b3, Option.bind_some, Option.bind_some, if_neg ne1.2.1, if_neg ne1.2.2.2.1, if_pos rfl]
    · rw [m_X7_node, m.ck, Option.bind_some, f1, z1 ⟨l, id, b1, b2, rfl, rfl⟩, Option.bind_some, if_neg ne1.1, if_pos (show m_X7_in y 0 5 = 0 from b4), m1.ck, Option.bind_some, f3, Option.bind_some, if_neg ne1.1]
  · refine case_ok H0 (w1 := w) (v := ndV S l id d) ?_ hw g sc (fun _ _ => rfl) fun v2 m2 => ?_
    · rw [m_L_node, g.ck, Option.bind_some, q_X6_node, g.ck, Option.bind_some, show m_X6_refusalOfNode n w h (nI l) (nI id) (nI d) 5 = some 0 from b3, Option.bind_some, Option.bind_some, if_pos rfl, (m_node6 (by omega) g hw b1 b2 (by omega)).2, Option.bind_some]
    · obtain ⟨I, J, A, m⟩ := m2
      obtain ⟨u1, A1, v, f1, m1, t1, q1, -, z1⟩ := k_nodeOf (n := n) (a := nI l) (x := nI id) (by omega) m hw
      obtain ⟨u2, f2, m2, q2⟩ := k_ref0 (n := n) m1
      obtain ⟨u3, I3, f3, m3, i3, q3⟩ := k_tellNode (n := n) (what := d) (by omega) m2.1 m2.2.1 hw b1 (t1 l b1) b2 (by omega)
      refine ⟨u3, ?_, ⟨I3, J, A1, m2.to m3 m2.2.1 (fun k hk => i3 k (by omega)) fun _ _ _ => rfl⟩, fun z hz => (q3 z hz).trans ((q2 z hz).trans (q1 z hz))⟩
      rw [m_X7_node, m.ck, Option.bind_some, f1, z1 ⟨l, id, b1, b2, rfl, rfl⟩, Option.bind_some, if_neg ne1.1, show m_X7_in (nI d) 0 5 = 1 from ins_1 (m := 5) (by decide) (by omega), if_neg ne1.1, m1.ck, Option.bind_some, f2, Option.bind_some, if_pos rfl, m2.ck, Option.bind_some, f3, Option.bind_some]
theorem B_child (hn : 600 ≤ n) (H : InvK h w) : ∃ w', mc_9 K n w h (h + 87) (h + 97) xs i = some w' ∧ InvK h w' := by
  obtain ⟨S, P, c, L, B, r, H⟩ := H
  generalize ea : xs (Int32.toNatClampNeg (i + 1)) = a
  generalize ex : xs (Int32.toNatClampNeg (i + 2)) = x
  generalize ey : xs (Int32.toNatClampNeg (i + 3)) = y
  show ∃ w', mcF (fun w1 => m_X7_child n w1 (h + 87) (xs (Int32.toNatClampNeg (i + 1))) (xs (Int32.toNatClampNeg (i + 2))) (xs (Int32.toNatClampNeg (i + 3)))) (m_L_child n w h (xs (Int32.toNatClampNeg (i + 1))) (xs (Int32.toNatClampNeg (i + 2))) (xs (Int32.toNatClampNeg (i + 3))) (h + 97)) n (h + 87) (h + 97) = some w' ∧ _
  rw [ea, ex, ey]
  have H0 := H
  obtain ⟨hw, g, sc, M, o⟩ := H
  rcases rn_c (n := n) (a := a) (x := x) (y := y) (gr := 3) (by omega) g hw (by decide) with ⟨b1, b2⟩ | ⟨l, id, b1, b2, rfl, rfl, ⟨b3, b4⟩ | ⟨b3, d, b4, rfl⟩⟩
  · obtain ⟨I, J, A, m⟩ := M
    obtain ⟨u1, A1, v, f1, m1, t1, q1, z0, -⟩ := k_nodeOf (n := n) (a := a) (x := x) (by omega) m hw
    obtain ⟨w3, f3, m3, q3⟩ := k_no (n := n) (k := 1) pos1.1 ⟨_, _, _, m1⟩
    refine case_no (v := 0) H0 ne1.1 ?_ ⟨w3, ?_, m3, fun z hz => (q3 z hz).trans (q1 z hz)⟩
    · rw [m_L_child, g.ck, Option.bind_some, q_X6_child, g.ck, Option.bind_some, show m_X6_refusalOfNode n w h a x y 3 = some 1 from b1, Option.bind_some, Option.bind_some, if_neg ne1.1, if_pos rfl]
    · rw [m_X7_child, m.ck, Option.bind_some, f1, z0 b2, Option.bind_some, if_pos rfl, m1.ck, Option.bind_some, f3, Option.bind_some, if_neg ne1.1]
  · obtain ⟨I, J, A, m⟩ := M
    obtain ⟨u1, A1, v, f1, m1, t1, q1, -, z1⟩ := k_nodeOf (n := n) (a := nI l) (x := nI id) (by omega) m hw
    obtain ⟨w3, f3, m3, q3⟩ := k_no (n := n) (k := 2) pos1.2.1 ⟨_, _, _, m1⟩
    refine case_no (v := 0) H0 ne1.2.1 ?_ ⟨w3, ?_, m3, fun z hz => (q3 z hz).trans (q1 z hz)⟩
    · rw [m_L_child, g.ck, Option.bind_some, q_X6_child, g.ck, Option.bind_some, show m_X6_refusalOfNode n w h (nI l) (nI id) y 3 = some 2 from b3, Option.bind_some, Option.bind_some, if_neg ne1.2.1, if_neg ne1.2.2.2.1, if_pos rfl]
    · rw [m_X7_child, m.ck, Option.bind_some, f1, z1 ⟨l, id, b1, b2, rfl, rfl⟩, Option.bind_some, if_neg ne1.1, if_pos (show m_X7_in y 0 3 = 0 from b4), m1.ck, Option.bind_some, f3, Option.bind_some, if_neg ne1.1]
  · refine case_ok H0 (w1 := w) (v := chV S l id d) ?_ hw g sc (fun _ _ => rfl) fun v2 m2 => ?_
    · rw [m_L_child, g.ck, Option.bind_some, q_X6_child, g.ck, Option.bind_some, show m_X6_refusalOfNode n w h (nI l) (nI id) (nI d) 3 = some 0 from b3, Option.bind_some, Option.bind_some, if_pos rfl, (m_child6 (by omega) g hw b1 b2 (by omega)).2, Option.bind_some]
    · obtain ⟨I, J, A, m⟩ := m2
      obtain ⟨u1, A1, v, f1, m1, t1, q1, -, z1⟩ := k_nodeOf (n := n) (a := nI l) (x := nI id) (by omega) m hw
      obtain ⟨u2, f2, m2, q2⟩ := k_ref0 (n := n) m1
      obtain ⟨u3, I3, f3, m3, i3, q3⟩ := k_tellChild (n := n) (d := d) (by omega) m2.1 m2.2.1 hw (t1 l b1) b1 b2 (by omega)
      refine ⟨u3, ?_, ⟨I3, J, A1, m2.to m3 m2.2.1 (fun k hk => i3 k (by omega)) fun _ _ _ => rfl⟩, fun z hz => (q3 z hz).trans ((q2 z hz).trans (q1 z hz))⟩
      rw [m_X7_child, m.ck, Option.bind_some, f1, z1 ⟨l, id, b1, b2, rfl, rfl⟩, Option.bind_some, if_neg ne1.1, show m_X7_in (nI d) 0 3 = 1 from ins_1 (m := 3) (by decide) (by omega), if_neg ne1.1, m1.ck, Option.bind_some, f2, Option.bind_some, if_pos rfl, m2.ck, Option.bind_some, f3, Option.bind_some]
      rfl
end PT
