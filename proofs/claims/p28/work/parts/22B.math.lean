section
/-! DIFFERENT POSITIONS; what both tell of levels and nodes -/
def dsN (l : List Nat) : Nat := ((List.range 4096).filter fun c => decide (c ∈ l)).length
theorem dsN_mem {l m : List Nat} (h : ∀ c, c ∈ l ↔ c ∈ m) : dsN l = dsN m := by
  unfold dsN
  refine congrArg List.length (List.filter_congr fun c _ => ?_)
  by_cases g : c ∈ l
  · rw [decide_eq_true g, decide_eq_true ((h c).mp g)]
  · rw [decide_eq_false g, decide_eq_false (fun z => g ((h c).mpr z))]
theorem nodup_len : ∀ {l r : List Nat}, l.Nodup → (∀ q ∈ l, q ∈ r) → l.length ≤ r.length
  | [], r, _, _ => Nat.zero_le _
  | a :: l, r, h1, h => by
    have ha : a ∈ r := h a List.mem_cons_self
    have h2 := List.nodup_cons.mp h1
    have := nodup_len (l := l) (r := r.erase a) h2.2 fun q hq => (List.mem_erase_of_ne (show q ≠ a from fun e => h2.1 (by rw [← e]; exact hq))).mpr (h q (List.mem_cons_of_mem _ hq))
    rw [List.length_erase_of_mem ha] at this
    have hp : 0 < r.length := List.length_pos_of_mem ha
    rw [List.length_cons]
    omega
theorem asc_nodup {l : List Nat} (h : Asc l) : l.Nodup := List.Pairwise.imp (fun q => Nat.ne_of_lt q) h
theorem dsN_of {l K : List Nat} (hc : C12 l) (hK : K.Nodup) (h : ∀ c, c ∈ K ↔ c ∈ l) : dsN l = K.length := by
  unfold dsN
  have hD : ∀ c, c ∈ (List.range 4096).filter (fun c => decide (c ∈ l)) ↔ c ∈ l := fun c => by
    rw [List.mem_filter, List.mem_range, decide_eq_true_eq]
    exact ⟨fun z => z.2, fun z => ⟨hc c z, z⟩⟩
  have a1 : Asc ((List.range 4096).filter fun c => decide (c ∈ l)) := List.Pairwise.filter _ List.pairwise_lt_range
  exact Nat.le_antisymm (nodup_len (asc_nodup a1) fun q hq => (h q).mpr ((hD q).mp hq)) (nodup_len hK fun q hq => (hD q).mpr ((h q).mp hq))
section DF
variable {n a : Nat} {w : Wd} {cs qs : List Nat}
theorem m_diffp (hn : 60 ≤ n) (h : LvC w a cs qs) (hs : Srt cs) (hc : C12 cs) : m_X1_differentPositions n w a = some (nI (dsN cs)) := by
  have h24 := h.2.2.2.1
  unfold m_X1_differentPositions
  obtain ⟨v, e, rfl⟩ := lp (σ := List Nat) (R := Int32) (fun t k K => m_X1_differentPositions_p4 n t w a (nI K.length) (nI k)) (fun k K => Asc K ∧ ∀ c, c ∈ K ↔ c ∈ cs.take k) (fun v => v = nI (dsN cs)) cs.length (by
    rintro t k K hk ⟨h1, h2⟩
    left
    have hT : cs.take (k + 1) = cs.take k ++ [cs.getD k 0] := take_s hk
    have hle : ∀ y ∈ cs.take k, y ≤ cs.getD (k - 1) 0 ∧ 0 < k := fun y hy => by
      obtain ⟨j, hj, ej⟩ := mem_getD hy
      rw [List.length_take] at hj
      have e2 : (cs.take k).getD j 0 = cs.getD j 0 := by
        rw [List.getD_eq_getElem?_getD, List.getD_eq_getElem?_getD, List.getElem?_take, if_pos (by omega)]
      rw [← ej, e2]
      exact ⟨srt_le hs (by omega) (by omega), by omega⟩
    rw [m_X1_differentPositions_p4, h.i1, Option.bind_some, if_neg (nI_ge hk (by omega))]
    by_cases hz : k = 0
    · subst hz
      refine ⟨K ++ [cs.getD 0 0], ?_, ?_, fun c => ?_⟩
      · rw [if_pos (show nI 0 = 0 from rfl), List.length_append, nI_1, nI_1]
        rfl
      · have : K = [] := List.eq_nil_iff_forall_not_mem.mpr fun y hy => by
          have := (h2 y).mp hy
          rw [List.take_zero] at this
          cases this
        rw [this]
        exact List.pairwise_singleton _ _
      · rw [hT, List.mem_append, List.mem_append, h2]
    · rw [if_neg (nI_ne0 (by omega) (by omega)), h.g0, Option.bind_some, h.cd hk, Option.bind_some, Option.bind_some, show nI k - 1 = nI (k - 1) from pk_sub (a := k) (b := 1) (by omega), h.cd (by omega), Option.bind_some]
      have hm1 : cs.getD (k - 1) 0 ∈ cs.take k := by
        have hj : k - 1 < (cs.take k).length := by rw [List.length_take]; omega
        have e2 : (cs.take k).getD (k - 1) 0 = cs.getD (k - 1) 0 := by
          rw [List.getD_eq_getElem?_getD, List.getD_eq_getElem?_getD, List.getElem?_take, if_pos (by omega)]
        rw [← e2]
        exact getD_mem hj
      have b1 := hc _ (getD_mem hk)
      have b2 := hc _ (getD_mem (show k - 1 < cs.length by omega))
      by_cases c : cs.getD k 0 = cs.getD (k - 1) 0
      · refine ⟨K, by rw [if_pos (by rw [c]), nI_1], h1, fun y => ?_⟩
        rw [hT, List.mem_append, List.mem_singleton, h2]
        exact ⟨fun z => Or.inl z, fun z => z.elim id fun z => by rw [z, c]; exact hm1⟩
      · refine ⟨K ++ [cs.getD k 0], ?_, asc_app h1 fun q hq => ?_, fun y => ?_⟩
        · rw [if_neg (fun z => c ((nI_eq (by omega) (by omega)).mp z)), List.length_append, nI_1, nI_1]
          rfl
        · have := (hle q ((h2 q).mp hq)).1
          have := srt_le hs (show k - 1 ≤ k by omega) hk
          omega
        · rw [hT, List.mem_append, List.mem_append, h2]) (by
    rintro t K ⟨h1, h2⟩
    rw [List.take_length] at h2
    exact ⟨_, by rw [m_X1_differentPositions_p4, h.i1, Option.bind_some, if_pos (Int32.le_refl _)], by rw [dsN_of hc (asc_nodup h1) h2]⟩) cs.length 0 n [] (by omega) (by omega) ⟨List.Pairwise.nil, fun c => by rw [List.take_zero]⟩
  exact e
end DF
theorem lpk2 {σ τ R : Type} (L : Nat → Nat → σ → R) (fin : τ → R) (I : Nat → σ → Prop) (P : τ → Prop) (b : Nat)
    (hs : ∀ t k s, 0 < t → k < b → I k s → (∃ s', L (t + 1) k s = L t (k + 1) s' ∧ I (k + 1) s') ∨ ∃ r, L (t + 1) k s = fin r ∧ P r)
    (he : ∀ t s, I b s → ∃ r, L (t + 1) b s = fin r ∧ P r) : ∀ (d k t : Nat) (s : σ), k + d = b → d < t → I k s → ∃ r, L t k s = fin r ∧ P r := by
  intro d
  induction d with
  | zero =>
    intro k t s h1 h2 h3
    obtain ⟨t, rfl⟩ : ∃ u, t = u + 1 := ⟨t - 1, by omega⟩
    have : k = b := by omega
    subst this
    exact he t s h3
  | succ d ih =>
    intro k t s h1 h2 h3
    obtain ⟨t, rfl⟩ : ∃ u, t = u + 1 := ⟨t - 1, by omega⟩
    rcases hs t k s (by omega) (by omega) h3 with ⟨s', e, h⟩ | h
    · rw [e]
      exact ih (k + 1) t s' (by omega) (by omega) h
    · exact h
section TL
variable {n b l : Nat} {w : Wd} {I : Nat → Int32} {J : Nat → Int64} {A : Rw} {S : Nat → Int32}
theorem nodup_app {l : List Nat} {x : Nat} (h : l.Nodup) (hx : x ∉ l) : (l ++ [x]).Nodup := by
  refine List.pairwise_append.mpr ⟨h, List.pairwise_singleton _ _, fun a ha b hb => ?_⟩
  rw [List.mem_singleton.mp hb]
  exact fun e => hx (e ▸ ha)
noncomputable def lvV (S : Nat → Int32) (l what : Nat) : Nat := match what with
  | 0 => (cdS S l).length
  | 1 => (nds S l).length
  | 2 => gdN (nds S l) (nds S l).length
  | 3 => cB (pcB (cdS S l) (nds S l)) (4 * (nds S l).length)
  | _ => dsN (cdS S l)
noncomputable def ndV (S : Nat → Int32) (l i what : Nat) : Int32 := match what with
  | 0 => nI (xN ((nds S l).getD i 0 / 8))
  | 1 => nI (yN ((nds S l).getD i 0 / 8))
  | 2 => m_X3_size (nI ((nds S l).getD i 0))
  | 3 => nI (depN (nds S l) i)
  | 4 => nI ((cdS S l).filter (hB ((nds S l).getD i 0))).length
  | _ => nI (qdN (cdS S l) ((nds S l).getD i 0))
end TL
end
section
/-! point, level, node, child -/
theorem rv_c (a x : Int32) {m g : Nat} (hm : m + 1 < 2 ^ 31) (hg : g < 2 ^ 31) : (m_X6_inside a 0 (nI m) = 0 ∧ m_X6_refusalOfValue a (nI (m + 1)) x (nI g) = 1) ∨ (m_X6_inside a 0 (nI m) = 1 ∧ (∃ i, i ≤ m ∧ a = nI i) ∧ m_X6_inside x 0 (nI g) = 0 ∧ m_X6_refusalOfValue a (nI (m + 1)) x (nI g) = 2) ∨ (m_X6_inside a 0 (nI m) = 1 ∧ m_X6_inside x 0 (nI g) = 1 ∧ m_X6_refusalOfValue a (nI (m + 1)) x (nI g) = 0 ∧ ∃ i j, i ≤ m ∧ j ≤ g ∧ a = nI i ∧ x = nI j) := by
  unfold m_X6_refusalOfValue
  rw [nI_pred]
  rcases ins_c a (m := m) (by omega) with h1 | ⟨h1, i, hi, rfl⟩
  · exact Or.inl ⟨h1, if_pos h1⟩
  · have h1' : ¬ m_X6_inside (nI i) 0 (nI m) = 0 := by rw [h1]; decide
    rw [if_neg h1']
    rcases ins_c x hg with h2 | ⟨h2, j, hj, rfl⟩
    · exact Or.inr (Or.inl ⟨h1, ⟨i, hi, rfl⟩, h2, if_pos h2⟩)
    · have h2' : ¬ m_X6_inside (nI j) 0 (nI g) = 0 := by rw [h2]; decide
      rw [if_neg h2']
      exact Or.inr (Or.inr ⟨h1, h2, rfl, i, j, hi, hj, rfl, rfl⟩)
theorem rv_0 {i j m g : Nat} (hm : m + 1 < 2 ^ 31) (hg : g < 2 ^ 31) (hi : i ≤ m) (hj : j ≤ g) : m_X6_refusalOfValue (nI i) (nI (m + 1)) (nI j) (nI g) = 0 := by
  unfold m_X6_refusalOfValue
  rw [nI_pred, ins_1 (by omega) hi, if_neg (by decide), ins_1 hg hj, if_neg (by decide)]
def ptV (S : Nat → Int32) (i what : Nat) : Int32 := if what = 5 then nI (hgt i) else S (5 * i + what)
section PT
variable {n h c L : Nat} {w : Wd} {S : Nat → Int32} {P : Nat → Nat → Int32} {B : Nat → Int32} {r : Int32} {K : Nat → Nat} {xs : Nat → Int32} {i : Int32}
theorem ClJ.fo {S' : Nat → Int32} (g : ClJ w h S S' P c) : ∃ fo, gfR 5 3 w h = some fo ∧ FoC w fo S := by
  obtain ⟨-, -, fo, sp, -, h4, h5, -⟩ := g
  exact ⟨fo, gfR_at h4 rfl, h5⟩
theorem m_point6 {id what : Nat} (hn : 60 ≤ n) (g : ClI w h S P c) (hw : WF S) (hi : id < 24) (hwh : what < 6) : m_X6_point n w h (nI id) (nI what) = some (ptV S id what) := by
  obtain ⟨F, t, f0, fR⟩ := g.1
  rw [m_X6_point, show (24 : Int32) = nI (23 + 1) from rfl, show (5 : Int32) = nI 5 from rfl, rv_0 (by decide) (by decide) (by omega) (by omega), throw0, Option.bind_some]
  rcases (show what = 0 ∨ what = 1 ∨ what = 2 ∨ what = 3 ∨ what = 4 ∨ what = 5 by omega) with rfl | rfl | rfl | rfl | rfl | rfl
  · rw [if_pos (by decide), g.n0, Option.bind_some, f0.q0, Option.bind_some, f0.r0 hi, Option.bind_some, fR.1 0 id (by decide) hi]
    show (if S (5 * id) = 0 then some 0 else some 1) = some (S (5 * id))
    rcases (hw.1 id hi).1 with e | e
    · rw [e]; rfl
    · rw [e]; rfl
  · rw [if_neg (by decide), if_pos (by decide), g.n0, Option.bind_some, f0.q1, Option.bind_some, f0.r1 hi, Option.bind_some, fR.1 1 id (by decide) hi]; rfl
  · rw [if_neg (by decide), if_neg (by decide), if_pos (by decide), g.n0, Option.bind_some, f0.q2, Option.bind_some, f0.r2 hi, Option.bind_some, fR.1 2 id (by decide) hi]; rfl
  · rw [if_neg (by decide), if_neg (by decide), if_neg (by decide), if_pos (by decide), g.n0, Option.bind_some, f0.q3, Option.bind_some, f0.r3 hi, Option.bind_some, fR.1 3 id (by decide) hi]; rfl
  · rw [if_neg (by decide), if_neg (by decide), if_neg (by decide), if_neg (by decide), if_pos (by decide), g.n0, Option.bind_some, f0.q4, Option.bind_some, f0.r4 hi, Option.bind_some, fR.1 4 id (by decide) hi]; rfl
  · rw [if_neg (by decide), if_neg (by decide), if_neg (by decide), if_neg (by decide), if_neg (by decide), m_hgt6 (by omega) hi, Option.bind_some]; rfl
theorem cB_pc {cs : List Nat} {l k : Nat} (hp : cs.Perm (cdS S l)) {qs : List Nat} : cB (pcB cs qs) k = cB (pcB (cdS S l) qs) k := cB_cong fun i _ => by
  unfold pcB
  rw [kidN_perm hp]
theorem m_level6 {l what : Nat} (hn : 200 ≤ n) (g : ClI w h S P c) (hw : WF S) (hl : l < 5) (hwh : what < 5) : m_X6_level n w h (nI l) (nI what) = some (nI (lvV S l what)) := by
  obtain ⟨fo, e0, fc⟩ := g.fo
  obtain ⟨cs, a1, a2, a3, a4, a5⟩ := fc.lev hw hl
  rw [m_X6_level, show (5 : Int32) = nI (4 + 1) from rfl, show (4 : Int32) = nI 4 from rfl, rv_0 (by decide) (by decide) (by omega) (by omega), throw0, Option.bind_some, e0, Option.bind_some, fc.1.lv hl]
  rcases i5 hwh with rfl | rfl | rfl | rfl | rfl
  · rw [if_pos (by decide), a1.i1, Option.bind_some, a2.length_eq]; rfl
  · rw [if_neg (by decide), if_pos (by decide), a1.i3, Option.bind_some]; rfl
  · rw [if_neg (by decide), if_neg (by decide), if_pos (by decide), a1.c, Option.bind_some, m_gdepth (by omega) a1 a4 a5, Option.bind_some]; rfl
  · rw [if_neg (by decide), if_neg (by decide), if_neg (by decide), if_pos (by decide), a1.c, Option.bind_some, m_posch (by omega) a1 a3 a4 a5, Option.bind_some, cB_pc a2]; rfl
  · rw [if_neg (by decide), if_neg (by decide), if_neg (by decide), if_neg (by decide), a1.c, Option.bind_some, m_diffp (by omega) a1 a3 a4, Option.bind_some, dsN_mem fun c => a2.mem_iff]; rfl
theorem nds_pos (hw : WF S) (l : Nat) : 0 < (nds S l).length := List.length_pos_of_mem (((nds_of hw l).2 0).mpr (Or.inl rfl))
theorem m_node6 {l id what : Nat} (hn : 200 ≤ n) (g : ClI w h S P c) (hw : WF S) (hl : l < 5) (hi : id < (nds S l).length) (hwh : what < 6) : m_X6_refusalOfNode n w h (nI l) (nI id) (nI what) 5 = some 0 ∧ m_X6_node n w h (nI l) (nI id) (nI what) = some (ndV S l id what) := by
  obtain ⟨fo, e0, fc⟩ := g.fo
  obtain ⟨cs, a1, a2, a3, a4, a5⟩ := fc.lev hw hl
  have h24 := nds_len hw l
  obtain ⟨p1, p2, p3, p4⟩ := node_m a4 (a5.at hi)
  have e1 : m_X6_refusalOfNode n w h (nI l) (nI id) (nI what) 5 = some 0 := by
    rw [m_X6_refusalOfNode, show m_X6_inside (nI l) 0 4 = 1 from ins_1 (m := 4) (by decide) (by omega), if_neg ne1.1, e0, Option.bind_some, fc.1.lv hl, a1.i3, Option.bind_some, show (nds S l).length = (nds S l).length - 1 + 1 by omega, show (5 : Int32) = nI 5 from rfl, rv_0 (by omega) (by decide) (by omega) (by omega)]
  refine ⟨e1, ?_⟩
  rw [m_X6_node, g.ck, Option.bind_some, e1, Option.bind_some, throw0, Option.bind_some, e0, Option.bind_some, fc.1.lv hl, a1.g2, Option.bind_some, a1.sqr hi, Option.bind_some]
  rcases (show what = 0 ∨ what = 1 ∨ what = 2 ∨ what = 3 ∨ what = 4 ∨ what = 5 by omega) with rfl | rfl | rfl | rfl | rfl | rfl
  · rw [if_pos (by decide), sq_corner (by omega), (xy6_all _ p4).1.1]; rfl
  · rw [if_neg (by decide), if_pos (by decide), sq_corner (by omega), (xy6_all _ p4).2.1]; rfl
  · rw [if_neg (by decide), if_neg (by decide), if_pos (by decide)]; rfl
  · rw [if_neg (by decide), if_neg (by decide), if_neg (by decide), if_pos (by decide), a1.c, Option.bind_some, m_depth (by omega) a1 a4 a5 hi, Option.bind_some]; rfl
  · rw [if_neg (by decide), if_neg (by decide), if_neg (by decide), if_neg (by decide), if_pos (by decide), a1.c, Option.bind_some, m_points (by omega) a1 a4 (a5.at hi), Option.bind_some, (a2.filter _).length_eq]; rfl
  · rw [if_neg (by decide), if_neg (by decide), if_neg (by decide), if_neg (by decide), if_neg (by decide), a1.c, Option.bind_some, m_quads (by omega) a1 a4 (a5.at hi), Option.bind_some, show qdN cs ((nds S l).getD id 0) = qdN (cdS S l) ((nds S l).getD id 0) from cB_cong fun d _ => by rw [kidN_perm a2]]; rfl
noncomputable def chV (S : Nat → Int32) (l id d : Nat) : Int32 := tell (nds S l) (kidN (cdS S l) ((nds S l).getD id 0) d)
theorem m_child6 {l id d : Nat} (hn : 200 ≤ n) (g : ClI w h S P c) (hw : WF S) (hl : l < 5) (hi : id < (nds S l).length) (hd : d < 4) : m_X6_refusalOfNode n w h (nI l) (nI id) (nI d) 3 = some 0 ∧ m_X6_child n w h (nI l) (nI id) (nI d) = some (chV S l id d) := by
  obtain ⟨fo, e0, fc⟩ := g.fo
  obtain ⟨cs, a1, a2, a3, a4, a5⟩ := fc.lev hw hl
  have h24 := nds_len hw l
  have e1 : m_X6_refusalOfNode n w h (nI l) (nI id) (nI d) 3 = some 0 := by
    rw [m_X6_refusalOfNode, show m_X6_inside (nI l) 0 4 = 1 from ins_1 (m := 4) (by decide) (by omega), if_neg ne1.1, e0, Option.bind_some, fc.1.lv hl, a1.i3, Option.bind_some, show (nds S l).length = (nds S l).length - 1 + 1 by omega, show (3 : Int32) = nI 3 from rfl, rv_0 (by omega) (by decide) (by omega) (by omega)]
  refine ⟨e1, ?_⟩
  rw [m_X6_child, g.ck, Option.bind_some, e1, Option.bind_some, throw0, Option.bind_some, e0, Option.bind_some, fc.1.lv hl, a1.c, Option.bind_some, m_child (by omega) a1 a3 a4 a5 hi hd, Option.bind_some, kidN_perm a2]
  rfl
/-- what both refuse of a node -/
theorem rn_c {a x y : Int32} {gr : Nat} (hn : 200 ≤ n) (g : ClI w h S P c) (hw : WF S) (hg : gr < 2 ^ 31) :
    (m_X6_refusalOfNode n w h a x y (nI gr) = some 1 ∧ (m_X6_inside a 0 4 = 0 ∨ ∃ l, l < 5 ∧ a = nI l ∧ m_X6_inside x 0 (nI ((nds S l).length - 1)) = 0)) ∨
    (∃ l id, l < 5 ∧ id < (nds S l).length ∧ a = nI l ∧ x = nI id ∧ (m_X6_refusalOfNode n w h a x y (nI gr) = some 2 ∧ m_X6_inside y 0 (nI gr) = 0 ∨ m_X6_refusalOfNode n w h a x y (nI gr) = some 0 ∧ ∃ d, d ≤ gr ∧ y = nI d)) := by
  rcases ins_c a (m := 4) (by decide) with h1 | ⟨h1, l, hl, rfl⟩
  · left
    exact ⟨by rw [m_X6_refusalOfNode, if_pos (show m_X6_inside a 0 4 = 0 from h1)], Or.inl h1⟩
  · obtain ⟨fo, e0, fc⟩ := g.fo
    obtain ⟨cs, a1, a2, a3, a4, a5⟩ := fc.lev hw (show l < 5 by omega)
    have h24 := nds_len hw l
    have hp := nds_pos hw l
    have e1 : m_X6_refusalOfNode n w h (nI l) x y (nI gr) = some (m_X6_refusalOfValue x (nI ((nds S l).length - 1 + 1)) y (nI gr)) := by
      rw [m_X6_refusalOfNode, show m_X6_inside (nI l) 0 4 = 1 from h1, if_neg ne1.1, e0, Option.bind_some, fc.1.lv (by omega), a1.i3, Option.bind_some, show (nds S l).length - 1 + 1 = (nds S l).length by omega]
    rw [e1]
    rcases rv_c x y (m := (nds S l).length - 1) (g := gr) (by omega) hg with ⟨b1, b3⟩ | ⟨-, ⟨id, b0, rfl⟩, b2, b3⟩ | ⟨b1, b2, b3, id, d, b4, b5, rfl, rfl⟩
    · left
      exact ⟨by rw [b3], Or.inr ⟨l, by omega, rfl, b1⟩⟩
    · right
      exact ⟨l, id, by omega, by omega, rfl, rfl, Or.inl ⟨by rw [b3], b2⟩⟩
    · right
      exact ⟨l, id, by omega, by omega, rfl, rfl, Or.inr ⟨by rw [b3], d, b5, rfl⟩⟩
end PT
end
section
/-! SEARCHES -/
def stpN (l : List Nat) (q c : Nat) : Nat := if kidN l q (c / 4 ^ (sqE q - 1) % 4) < 100000 ∧ hB (kidN l q (c / 4 ^ (sqE q - 1) % 4)) c = true then kidN l q (c / 4 ^ (sqE q - 1) % 4) else 200000
theorem stpN_perm {l m : List Nat} (h : l.Perm m) {q c : Nat} : stpN l q c = stpN m q c := by
  unfold stpN
  rw [kidN_perm h]
theorem stp_c {cs : List Nat} (hc : C12 cs) {q c : Nat} (hq : isNode cs q) : stpN cs q c = 200000 ∨ stpN cs q c = kidN cs q (c / 4 ^ (sqE q - 1) % 4) ∧ stpN cs q c < 40000 ∧ isNode cs (stpN cs q c) ∧ sqE (stpN cs q c) < sqE q ∧ hB (stpN cs q c) c = true := by
  by_cases g : kidN cs q (c / 4 ^ (sqE q - 1) % 4) < 100000 ∧ hB (kidN cs q (c / 4 ^ (sqE q - 1) % 4)) c = true
  · right
    have e : stpN cs q c = kidN cs q (c / 4 ^ (sqE q - 1) % 4) := if_pos g
    rcases kid_c hc (d := c / 4 ^ (sqE q - 1) % 4) hq with ⟨b1, b2⟩ | ⟨b1, b2, b3, b4⟩ | ⟨b1, b2, b3, b4⟩
    · omega
    · omega
    · obtain ⟨e0, e1, e2, e3, -⟩ := kid_node hc hq (Nat.mod_lt _ (by decide)) b1 b2
      have := sqE_le q
      rw [e]
      exact ⟨rfl, b3, b4, by rw [e3, sq_e (by omega)]; exact e2, g.2⟩
  · left
    exact if_neg g
def dsc (l : List Nat) (c : Nat) : Nat → Nat → Nat → Nat × Nat
  | 0, q, s => (q, s)
  | f + 1, q, s => if stpN l q c = 200000 then (q, s) else dsc l c f (stpN l q c) (s + 1)
theorem dsc_perm {l m : List Nat} (h : l.Perm m) {c : Nat} : ∀ {f q s : Nat}, dsc l c f q s = dsc m c f q s
  | 0, _, _ => rfl
  | f + 1, q, s => by
    unfold dsc
    rw [stpN_perm h, dsc_perm h]
theorem dsc_node {cs : List Nat} (hc : C12 cs) {c : Nat} : ∀ {f q s : Nat}, isNode cs q → isNode cs (dsc cs c f q s).1 ∧ (dsc cs c f q s).2 ≤ s + f
  | 0, q, s, h => ⟨h, Nat.le_refl _⟩
  | f + 1, q, s, h => by
    unfold dsc
    by_cases g : stpN cs q c = 200000
    · rw [if_pos g]
      exact ⟨h, by omega⟩
    · rw [if_neg g]
      have h1 := ((stp_c hc (c := c) h).resolve_left g).2.2.1
      have := dsc_node hc (c := c) (f := f) (s := s + 1) h1
      exact ⟨this.1, by omega⟩
def lvs (S : Nat → Int32) (c : Nat) : Nat → Nat → Nat → Nat × Nat
  | 0, q, s => dsc (cdS S 0) c 5 q s
  | l + 1, q, s => lvs S c l (dsc (cdS S (l + 1)) c 5 q s).1 ((dsc (cdS S (l + 1)) c 5 q s).2 + 1)
theorem cdS_sub {S : Nat → Int32} {l c : Nat} (h : c ∈ cdS S (l + 1)) : c ∈ cdS S l := by
  obtain ⟨i, hi, rfl⟩ := List.mem_map.mp h
  obtain ⟨a, b, d⟩ := onS_mem.mp hi
  exact cdS_mem (onS_mem.mpr ⟨a, b, by omega⟩)
theorem lvs_node {S : Nat → Int32} (hw : WF S) {c : Nat} : ∀ {l q s : Nat}, isNode (cdS S l) q → isNode (cdS S 0) (lvs S c l q s).1 ∧ (lvs S c l q s).2 ≤ s + 6 * (l + 1)
  | 0, q, s, h => by
    have := dsc_node (cdS_12 hw) (c := c) (f := 5) (s := s) h
    exact ⟨this.1, Nat.le_trans this.2 (by omega)⟩
  | l + 1, q, s, h => by
    have h1 := dsc_node (cdS_12 hw) (c := c) (f := 5) (s := s) h
    have := lvs_node hw (c := c) (l := l) (s := (dsc (cdS S (l + 1)) c 5 q s).2 + 1) (node_mono (fun c hc => cdS_sub hc) h1.1)
    exact ⟨this.1, by
      have h2 := this.2
      show (lvs S c l _ _).2 ≤ _
      omega⟩
def glN (S : Nat → Int32) : Nat → Nat
  | 0 => 0
  | k + 1 => if 0 < (cdS S k).length then k else glN S k
theorem glN_lt (S : Nat → Int32) : ∀ k, k ≤ 5 → glN S k ≤ 4
  | 0, _ => Nat.zero_le _
  | k + 1, h => by
    have := glN_lt S k (by omega)
    unfold glN
    split <;> omega
def fnd (S : Nat → Int32) (c : Nat) (sk : Bool) : Nat × Nat := lvs S c (if sk then glN S 5 else 0) 0 0
theorem fnd_ok {S : Nat → Int32} (hw : WF S) (c : Nat) (sk : Bool) : isNode (cdS S 0) (fnd S c sk).1 ∧ (fnd S c sk).2 ≤ 30 := by
  have h := lvs_node hw (c := c) (l := if sk then glN S 5 else 0) (q := 0) (s := 0) (Or.inl rfl)
  have := glN_lt S 5 (Nat.le_refl _)
  refine ⟨h.1, Nat.le_trans h.2 ?_⟩
  split <;> omega
section SE
variable {n a : Nat} {w : Wd} {cs qs : List Nat}
theorem m_stepT {ix c : Nat} (hn : 60 ≤ n) (h : LvC w a cs qs) (hs : Srt cs) (hc : C12 cs) (hN : NodesOf cs qs) (hi : ix < qs.length) (hcc : c < 4096) : m_X1_stepTowards n w a (nI ix) (nI c) = some (if stpN cs (qs.getD ix 0) c = 200000 then -1 else nI (ixN qs (stpN cs (qs.getD ix 0) c))) := by
  have h24 := h.2.2.2.2.1
  have hq := hN.at hi
  obtain ⟨p1, p2, p3, p4⟩ := node_m hc hq
  rw [m_X1_stepTowards, h.g2, Option.bind_some, h.sqr hi, Option.bind_some, h.c, Option.bind_some, m_quad (by omega) p2 p3 (by omega), m_child hn h hs hc hN hi (Nat.mod_lt _ (by decide)), Option.bind_some]
  rcases tell_c hc hN h24 (d := c / 4 ^ (sqE (qs.getD ix 0) - 1) % 4) hq with ⟨a1, a2⟩ | ⟨x, a1, a2, a3, a4, a5⟩ | ⟨a1, a2, a3, a4, a5⟩
  · have e : stpN cs (qs.getD ix 0) c = 200000 := by
      unfold stpN
      rw [if_neg (by omega)]
    rw [a2, if_pos rfl, if_pos e]
  · have e : stpN cs (qs.getD ix 0) c = 200000 := by
      unfold stpN
      rw [if_neg (by omega)]
    rw [a5, if_neg (nI_m1 (by omega)), if_neg (show ¬ nI x < 1000 from nI_nlt a1 (by omega)), if_pos e]
  · have hx : ∀ m, m = kidN cs (qs.getD ix 0) (c / 4 ^ (sqE (qs.getD ix 0) - 1) % 4) → m % 8 ≤ 6 := fun m em => by
      rw [em]
      exact (node_m hc a2).2.1
    rw [a3, if_neg (nI_m1 (by omega)), if_pos (show nI (ixN qs (kidN cs (qs.getD ix 0) (c / 4 ^ (sqE (qs.getD ix 0) - 1) % 4))) < 1000 from nI_lt (b := 1000) (by omega) (by decide)), Option.bind_some, h.sqr a4, Option.bind_some, a5, m_holds (by omega) (hx _ rfl) (by omega)]
    by_cases g : hB (kidN cs (qs.getD ix 0) (c / 4 ^ (sqE (qs.getD ix 0) - 1) % 4)) c = true
    · have e : stpN cs (qs.getD ix 0) c = kidN cs (qs.getD ix 0) (c / 4 ^ (sqE (qs.getD ix 0) - 1) % 4) := by
        unfold stpN
        rw [if_pos ⟨by omega, g⟩]
      rw [e, if_pos g, if_neg ne1.1, if_neg (by omega)]
    · have e : stpN cs (qs.getD ix 0) c = 200000 := by
        unfold stpN
        rw [if_neg (fun z => g z.2)]
      rw [if_neg g, if_pos rfl, if_pos e]
theorem m_indexOf {q : Nat} (hn : 60 ≤ n) (h : LvC w a cs qs) (hc : C12 cs) (hN : NodesOf cs qs) (hq : q ∈ qs) : m_X1_indexOf n w a (nI q) = some (nI (ixN qs q)) := by
  have h24 := h.2.2.2.2.1
  have hp := h.2.2.2.2.2.1
  obtain ⟨b1, b2⟩ := ixN_mem hN.1 hq
  have lt : ∀ x ∈ qs, x < 2 ^ 31 := fun x hx => by
    have := (node_m hc ((hN.2 x).mp hx)).1
    omega
  have es : nI qs.length - 1 = nI (qs.length - 1) := pk_sub (b := 1) hp
  unfold m_X1_indexOf
  obtain ⟨v, e, rfl⟩ := lp (σ := Unit) (R := Int32) (fun t k _ => m_X1_indexOf_p2 n t w a (nI q) (nI k)) (fun _ _ => True) (fun v => v = nI (ixN qs q)) (ixN qs q) (by
    rintro t k ⟨⟩ hk -
    left
    refine ⟨(), ?_, trivial⟩
    have := asc_get hN.1 hk b1
    rw [m_X1_indexOf_p2, h.i3, Option.bind_some, es, if_neg (nI_ge (show k < qs.length - 1 by omega) (by omega)), h.g2, Option.bind_some, h.sqr (by omega), Option.bind_some, if_neg (nI_ge (show qs.getD k 0 < q by omega) (lt _ hq)), nI_1]) (by
    rintro t ⟨⟩ -
    refine ⟨_, ?_, rfl⟩
    rw [m_X1_indexOf_p2, h.i3, Option.bind_some, es]
    by_cases g : qs.length - 1 ≤ ixN qs q
    · rw [if_pos (nI_le g (by omega))]
    · rw [if_neg (nI_ge (show ixN qs q < qs.length - 1 by omega) (by omega)), h.g2, Option.bind_some, h.sqr b1, Option.bind_some, b2, if_pos (Int32.le_refl _)]) (ixN qs q) 0 n () (by omega) (by omega) trivial
  exact e
theorem m_desc {q c s : Nat} (hn : 60 ≤ n) (h : LvC w a cs qs) (hs : Srt cs) (hc : C12 cs) (hN : NodesOf cs qs) (hcc : c < 4096) {k27 : Wd → Nat → Int32 → Int32 → Int32 → Int32 → Option Int32} {a0 : Nat} {lev : Int32} :
    ∀ (f : Nat), f ≤ 5 → ∀ (q s t : Nat), isNode cs q → f < t → m_X0_find_p55 n k27 t w a0 (nI c) (nI s) (nI (ixN qs q)) lev a (if stpN cs q c = 200000 then -1 else nI (ixN qs (stpN cs q c))) (nI (5 - f)) = m_X0_find_p91 n k27 w a0 (nI c) (nI (dsc cs c f q s).2) (nI (ixN qs (dsc cs c f q s).1)) lev a := by
  have h24 := h.2.2.2.2.1
  intro f
  induction f with
  | zero =>
    intro _ q s t hq ht
    obtain ⟨t, rfl⟩ : ∃ u, t = u + 1 := ⟨t - 1, by omega⟩
    rw [m_X0_find_p55, if_pos (by decide)]
    rfl
  | succ f ih =>
    intro hf q s t hq ht
    obtain ⟨t, rfl⟩ : ∃ u, t = u + 1 := ⟨t - 1, by omega⟩
    rw [m_X0_find_p55, if_neg (show ¬ (5 : Int32) ≤ nI (5 - (f + 1)) from nI_ge (b := 5) (by omega) (by decide))]
    unfold dsc
    by_cases g : stpN cs q c = 200000
    · rw [if_pos g, if_pos rfl, if_pos g]
    · obtain ⟨-, -, h1, -, -⟩ := (stp_c hc (c := c) hq).resolve_left g
      obtain ⟨b1, b2⟩ := ixN_mem hN.1 ((hN.2 _).mpr h1)
      have := ih (by omega) (stpN cs q c) (s + 1) t h1 (by omega)
      rw [if_neg g, if_neg (nI_m1 (by omega)), h.c, Option.bind_some, m_stepT hn h hs hc hN b1 hcc, Option.bind_some, b2, nI_1, nI_1, if_neg g, show 5 - (f + 1) + 1 = 5 - f by omega]
      exact this
end SE
section SF
variable {n b : Nat} {w : Wd} {S : Nat → Int32}
theorem m_lvs {fo c : Nat} (hn : 60 ≤ n) (fc : FoC w fo S) (hw : WF S) (hcc : c < 4096) : ∀ (l : Nat), l < 5 → ∀ (q s t : Nat), isNode (cdS S l) q → l + 1 < t → m_X0_find_p27 n t w fo (nI c) (nI s) (nI (ixN (nds S l) q)) (nI l) = some (nI (lvs S c l q s).2 * 32 + nI (ixN (nds S 0) (lvs S c l q s).1)) := by
  intro l
  induction l with
  | zero =>
    intro _ q s t hq ht
    obtain ⟨t, rfl⟩ : ∃ u, t = u + 1 := ⟨t - 1, by omega⟩
    obtain ⟨t, rfl⟩ : ∃ u, t = u + 1 := ⟨t - 1, by omega⟩
    obtain ⟨cs, a1, a2, a3, a4, a5⟩ := fc.lev hw (show 0 < 5 by decide)
    have hq' : isNode cs q := node_mono (fun c hc => a2.mem_iff.mpr hc) hq
    obtain ⟨b1, b2⟩ := ixN_mem a5.1 ((a5.2 _).mpr hq')
    rw [m_X0_find_p27, if_neg (nI_pos (by decide)), fc.1.lv (show 0 < 5 by decide), a1.c, Option.bind_some, m_stepT hn a1 a3 a4 a5 b1 hcc, Option.bind_some, b2]
    have := m_desc (s := 0) (q := 0) hn a1 a3 a4 a5 hcc (k27 := fun w b0 b4 b5 b6 b7 => m_X0_find_p27 n (t + 1) w b0 b4 b5 b6 b7) (a0 := fo) (lev := nI 0) 5 (Nat.le_refl _) q s n hq' (by omega)
    refine this.trans ?_
    rw [m_X0_find_p91, if_pos (show nI 0 ≤ 0 from Int32.le_refl _), m_X0_find_p27, if_pos (by decide), m_X0_find_p127, dsc_perm a2]
    rfl
  | succ l ih =>
    intro hl q s t hq ht
    obtain ⟨t, rfl⟩ : ∃ u, t = u + 1 := ⟨t - 1, by omega⟩
    obtain ⟨cs, a1, a2, a3, a4, a5⟩ := fc.lev hw hl
    obtain ⟨ds, d1, d2, d3, d4, d5⟩ := fc.lev hw (show l < 5 by omega)
    have h24 := a1.2.2.2.2.1
    have hq' : isNode cs q := node_mono (fun c hc => a2.mem_iff.mpr hc) hq
    obtain ⟨b1, b2⟩ := ixN_mem a5.1 ((a5.2 _).mpr hq')
    rw [m_X0_find_p27, if_neg (nI_pos (by omega)), fc.1.lv hl, a1.c, Option.bind_some, m_stepT hn a1 a3 a4 a5 b1 hcc, Option.bind_some, b2]
    have := m_desc (s := 0) (q := 0) hn a1 a3 a4 a5 hcc (k27 := fun w b0 b4 b5 b6 b7 => m_X0_find_p27 n t w b0 b4 b5 b6 b7) (a0 := fo) (lev := nI (l + 1)) 5 (Nat.le_refl _) q s n hq' (by omega)
    refine this.trans ?_
    rw [dsc_perm a2]
    have n1 : isNode (cdS S (l + 1)) (dsc (cdS S (l + 1)) c 5 q s).1 := (dsc_node (cdS_12 hw) hq).1
    have n2 : isNode (cdS S l) (dsc (cdS S (l + 1)) c 5 q s).1 := node_mono (fun c hc => cdS_sub hc) n1
    obtain ⟨f1, f2⟩ := ixN_mem a5.1 (((nds_of hw (l + 1)).2 _).mpr n1)
    rw [m_X0_find_p91, if_neg (nI_nle (Nat.succ_pos l) (by omega)), show nI (l + 1) - 1 = nI l from nI_pred l, fc.1.lv (by omega), a1.g2, Option.bind_some, a1.sqr f1, Option.bind_some, f2, d1.c, Option.bind_some, m_indexOf hn d1 d4 d5 (((nds_of hw l).2 _).mpr n2), Option.bind_some, nI_1, pk_m1]
    exact ih (by omega) _ _ t n2 (by omega)
theorem m_great {fo : Nat} (hn : 60 ≤ n) (fc : FoC w fo S) (hw : WF S) : m_X0_greatestLevel n w fo = some (nI (glN S 5)) := by
  unfold m_X0_greatestLevel
  obtain ⟨v, e, rfl⟩ := lp (σ := Unit) (R := Int32) (fun t k _ => m_X0_greatestLevel_p4 n t w fo (nI (glN S k)) (nI k)) (fun _ _ => True) (fun v => v = nI (glN S 5)) 5 (by
    rintro t k ⟨⟩ hk -
    left
    refine ⟨(), ?_, trivial⟩
    obtain ⟨cs, a1, a2, a3, a4, a5⟩ := fc.lev hw hk
    have h24 := a1.2.2.2.1
    rw [m_X0_greatestLevel_p4, if_neg (show ¬ (5 : Int32) ≤ nI k from nI_ge hk (by decide)), fc.1.lv hk, a1.i1, Option.bind_some]
    show _ = m_X0_greatestLevel_p4 n t w fo (nI (if 0 < (cdS S k).length then k else glN S k)) (nI (k + 1))
    by_cases g : 0 < (cdS S k).length
    · rw [if_neg (nI_nle (show 0 < cs.length by rw [a2.length_eq]; exact g) (by omega)), if_pos g, nI_1]
    · have : cs.length = 0 := by rw [a2.length_eq]; omega
      rw [this, if_pos (show nI 0 ≤ 0 from Int32.le_refl _), if_neg g, nI_1]) (by
    rintro t ⟨⟩ -
    exact ⟨_, by rw [m_X0_greatestLevel_p4, if_pos (by decide)], rfl⟩) 5 0 n () rfl (by omega) trivial
  exact e
def bI (sk : Bool) : Int32 := if sk then 1 else 0
theorem ixN_0 (hw : WF S) (l : Nat) : ixN (nds S l) 0 = 0 := by
  obtain ⟨b1, b2⟩ := ixN_mem (nds_of hw l).1 (((nds_of hw l).2 0).mpr (Or.inl rfl))
  rcases Nat.eq_zero_or_pos (ixN (nds S l) 0) with e | e
  · exact e
  · have := asc_get (nds_of hw l).1 e b1
    omega
theorem m_findF {fo x y : Nat} {sk : Bool} (hn : 60 ≤ n) (fc : FoC w fo S) (hw : WF S) (hx : x < 64) (hy : y < 64) : m_X0_find n w fo (nI x) (nI y) (bI sk) = some (nI ((fnd S (codeN x y) sk).2 * 32 + ixN (nds S 0) (fnd S (codeN x y) sk).1)) := by
  obtain ⟨c1, c2⟩ := code6_all x hx y hy
  have fin : ∀ l, l < 5 → m_X0_find_p27 n n w fo (m_X3_code (nI x) (nI y)) 0 0 (nI l) = some (nI ((lvs S (codeN x y) l 0 0).2 * 32 + ixN (nds S 0) (lvs S (codeN x y) l 0 0).1)) := fun l hl => by
    have := m_lvs hn fc hw c2 l hl 0 0 n (Or.inl rfl) (by omega)
    rw [ixN_0 hw] at this
    rw [c1]
    refine this.trans ?_
    rw [show (32 : Int32) = nI 32 from rfl, pk_mul, nI_add]
  unfold fnd
  cases sk with
  | false =>
    rw [m_X0_find, if_pos (show bI false = 0 from rfl), if_neg (by decide)]
    exact fin 0 (by decide)
  | true =>
    have := glN_lt S 5 (Nat.le_refl _)
    rw [m_X0_find, if_neg (show ¬ bI true = 0 by decide), if_pos rfl, chk_at fc.1.1, Option.bind_some, m_great hn fc hw, Option.bind_some]
    exact fin _ (by omega)
/-! the reference's search -/
end SF
end
section
/-! search and worst, both sides -/
def wstN (S : Nat → Int32) (sk : Bool) : Nat → Nat
  | 0 => 0
  | k + 1 => if herB S k then max (wstN S sk k) (fnd S (codeS S k) sk).2 else wstN S sk k
theorem wstN_le {S : Nat → Int32} (hw : WF S) (sk : Bool) : ∀ k, wstN S sk k ≤ 30
  | 0 => Nat.zero_le _
  | k + 1 => by
    have h1 := wstN_le hw sk k
    have h2 := (fnd_ok hw (codeS S k) sk).2
    unfold wstN
    split <;> omega
noncomputable def seV (S : Nat → Int32) (c : Nat) (sk : Bool) (what : Nat) : Int32 := if what = 0 then nI (fnd S c sk).2 else if what = 1 then nI (ixN (nds S 0) (fnd S c sk).1) else m_X3_size (nI (fnd S c sk).1)
section WO
variable {n h c L : Nat} {w : Wd} {S : Nat → Int32} {P : Nat → Nat → Int32} {B : Nat → Int32} {r : Int32} {K : Nat → Nat} {xs : Nat → Int32} {i : Int32}
theorem m_worst6 {sk : Bool} (hn : 60 ≤ n) (g : ClI w h S P c) (hw : WF S) : m_X6_worst n w h (bI sk) = some (nI (wstN S sk 24)) := by
  obtain ⟨F, t0, f0, fR⟩ := g.1
  obtain ⟨fo, e0, fc⟩ := g.fo
  have h0 := nds_len hw 0
  unfold m_X6_worst
  obtain ⟨v, e, rfl⟩ := lp (σ := Unit) (R := Int32) (fun t k _ => m_X6_worst_p4 n t w h (bI sk) (nI (wstN S sk k)) (nI k)) (fun _ _ => True) (fun v => v = nI (wstN S sk 24)) 24 (by
    rintro t k ⟨⟩ hk -
    left
    refine ⟨(), ?_, trivial⟩
    rw [m_X6_worst_p4, if_neg (show ¬ (24 : Int32) ≤ nI k from nI_ge hk (by decide)), g.n0, Option.bind_some, f0.q0, Option.bind_some, f0.r0 hk, Option.bind_some, fR.1 0 k (by decide) hk]
    show _ = m_X6_worst_p4 n t w h (bI sk) (nI (if herB S k then max (wstN S sk k) (fnd S (codeS S k) sk).2 else wstN S sk k)) (nI (k + 1))
    by_cases z : S (5 * k) = 0
    · rw [if_pos (show S (5 * k + 0) = 0 from z), her0 z, if_neg (show ¬ false = true by decide), nI_1]
    · obtain ⟨x, y, hx, hy, ex, ey, ec, hc⟩ := codeS_at (hw.1 k hk)
      have hf := fnd_ok hw (codeS S k) sk
      have hwl := wstN_le hw sk k
      obtain ⟨b1, -⟩ := ixN_mem (nds_of hw 0).1 (((nds_of hw 0).2 _).mpr hf.1)
      rw [if_neg (show ¬ S (5 * k + 0) = 0 from z), her1 z, if_pos rfl, e0, Option.bind_some, Option.bind_some, f0.q1, Option.bind_some, f0.r1 hk, Option.bind_some, Option.bind_some, f0.q2, Option.bind_some, f0.r2 hk, Option.bind_some, chk_at fc.1.1, Option.bind_some, fR.1 1 k (by decide) hk, fR.1 2 k (by decide) hk, ex, ey, m_findF hn fc hw hx hy, ← ec, Option.bind_some, show (32 : Int32) = nI 32 from rfl, pk_div (by omega) (by decide) (by decide), show ((fnd S (codeS S k) sk).2 * 32 + ixN (nds S 0) (fnd S (codeS S k) sk).1) / 32 = (fnd S (codeS S k) sk).2 by omega, mx_nI (by omega) (by omega), nI_1]) (by
    rintro t ⟨⟩ -
    exact ⟨_, by rw [m_X6_worst_p4, if_pos (by decide)], rfl⟩) 24 0 n () rfl (by omega) trivial
  exact e
theorem m_search6 {x y what : Nat} {sk : Bool} (hn : 60 ≤ n) (g : ClI w h S P c) (hw : WF S) (hx : x < 64) (hy : y < 64) (hwh : what ≤ 2) : m_X6_search n w h (nI x) (nI y) (bI sk) (nI what) = some (seV S (codeN x y) sk what) := by
  obtain ⟨fo, e0, fc⟩ := g.fo
  obtain ⟨cs, a1, a2, a3, a4, a5⟩ := fc.lev hw (show 0 < 5 by decide)
  have h24 := nds_len hw 0
  have hf := fnd_ok hw (codeN x y) sk
  obtain ⟨b1, b2⟩ := ixN_mem (nds_of hw 0).1 (((nds_of hw 0).2 _).mpr hf.1)
  have d1 : (nI ((fnd S (codeN x y) sk).2 * 32 + ixN (nds S 0) (fnd S (codeN x y) sk).1)) / 32 = nI (fnd S (codeN x y) sk).2 := by
    rw [show (32 : Int32) = nI 32 from rfl, pk_div (by omega) (by decide) (by decide)]
    exact congrArg nI (by omega)
  have d2 : jrm (nI ((fnd S (codeN x y) sk).2 * 32 + ixN (nds S 0) (fnd S (codeN x y) sk).1)) 32 = nI (ixN (nds S 0) (fnd S (codeN x y) sk).1) := by
    rw [show (32 : Int32) = nI 32 from rfl, jrm_nI (by omega) (by decide) (by decide)]
    exact congrArg nI (by omega)
  rw [m_X6_search, pl_1 hx hy, if_neg ne1.1, show m_X6_inside (nI what) 0 2 = 1 from ins_1 (m := 2) (by decide) hwh, if_neg ne1.1, throw0, Option.bind_some, e0, Option.bind_some, chk_at fc.1.1, Option.bind_some, m_findF hn fc hw hx hy, Option.bind_some]
  unfold seV
  rcases (show what = 0 ∨ what = 1 ∨ what = 2 by omega) with rfl | rfl | rfl
  · rw [if_pos (show nI 0 = 0 from rfl), if_pos rfl, d1]
  · rw [if_neg (show ¬ nI 1 = 0 by decide), if_pos (show nI 1 = 1 from rfl), if_neg (by decide), if_pos rfl, d2]
  · have lv0 := fc.1.lv (f := fun q9 => (gfR 1 2 w q9).bind fun q10 => (agI 0 w q10 (nI (ixN (nds S 0) (fnd S (codeN x y) sk).1))).bind fun x11 => some (m_X3_size x11)) (show 0 < 5 by decide)
    rw [if_neg (show ¬ nI 2 = 0 by decide), if_neg (show ¬ nI 2 = 1 by decide), if_neg (by decide), if_neg (by decide), d2, Option.bind_some]
    refine lv0.trans ?_
    show ((gfR 1 2 w (fo + 3 + 3 * 0)).bind fun q10 => (agI 0 w q10 (nI (ixN (nds S 0) (fnd S (codeN x y) sk).1))).bind fun x11 => some (m_X3_size x11)) = _
    rw [a1.g2, Option.bind_some, a1.sqr b1, Option.bind_some, b2]
end WO
end
