/-! THE DIGEST -/
def mixN (a : Int64) (v : Int32) : Int64 := (31 * a) + (Int32.toInt64 v)
def mxs (f : Nat → Int32) : Nat → Int64 → Int64
  | 0, a => a
  | k + 1, a => mixN (mxs f k a) (f k)
def dgP (S : Nat → Int32) : Nat → Int64 → Int64
  | 0, a => a
  | i + 1, a => mxs (ptV S i) 6 (dgP S i a)
noncomputable def dgN (S : Nat → Int32) (l : Nat) : Nat → Int64 → Int64
  | 0, a => a
  | i + 1, a => mxs (chV S l i) 4 (mxs (ndV S l i) 6 (dgN S l i a))
noncomputable def dgL (S : Nat → Int32) : Nat → Int64 → Int64
  | 0, a => a
  | l + 1, a => dgN S l (nds S l).length (mxs (fun x => nI (lvV S l x)) 5 (dgL S l a))
noncomputable def dgC (S : Nat → Int32) : Nat → Int64 → Int64
  | 0, a => a
  | cu + 1, a => mxs (cuV S cu) 6 (dgC S cu a)
section DG
variable {n h c L : Nat} {w : Wd} {S : Nat → Int32} {P : Nat → Nat → Int32} {B : Nat → Int32} {r : Int32} {K : Nat → Nat} {xs : Nat → Int32} {i : Int32}
theorem m_mixP {a : Int64} (hn : 60 ≤ n) (g : ClI w h S P c) (hw : WF S) : m_X6_mixPoints n w h a = some (dgP S 24 a) := by
  unfold m_X6_mixPoints
  obtain ⟨v, e, rfl⟩ := lp (σ := Unit) (R := Int64) (fun t k _ => m_X6_mixPoints_p5 n t w h (dgP S k a) (nI k)) (fun _ _ => True) (fun v => v = dgP S 24 a) 24 (by
    rintro t k ⟨⟩ hk -
    left
    refine ⟨(), ?_, trivial⟩
    rw [m_X6_mixPoints_p5, if_neg (show ¬ (24 : Int32) ≤ nI k from nI_ge hk (by decide))]
    obtain ⟨u, e, -⟩ := lpk (σ := Unit) (τ := Unit) (R := Option Int64) (fun t' j _ => m_X6_mixPoints_p15 n (fun w b0 b3 b5 => m_X6_mixPoints_p5 n t w b0 b3 b5) t' w h (mxs (ptV S k) j (dgP S k a)) (nI k) (nI j)) (fun _ => m_X6_mixPoints_p5 n t w h (dgP S (k + 1) a) (nI (k + 1))) (fun _ _ => True) (fun _ => True) 6 (by
      rintro t' j ⟨⟩ hj -
      left
      refine ⟨(), ?_, trivial⟩
      rw [m_X6_mixPoints_p15, if_neg (show ¬ (5 : Int32) < nI j from nI_nlt (a := 5) (by omega) (by decide)), g.ck, Option.bind_some, m_point6 hn g hw hk hj, Option.bind_some, nI_1]
      rfl) (by
      rintro t' ⟨⟩ -
      exact ⟨(), by rw [m_X6_mixPoints_p15, if_pos (by decide), nI_1]; rfl, trivial⟩) 6 0 n () rfl (by omega) trivial
    exact e) (by
    rintro t ⟨⟩ -
    exact ⟨_, by rw [m_X6_mixPoints_p5, if_pos (by decide)], rfl⟩) 24 0 n () rfl (by omega) trivial
  exact e
theorem m_mixC {a : Int64} (hn : 60 ≤ n) (g : ClI w h S P c) (hw : WF S) : m_X6_mixCursors n w h a = some (dgC S 4 a) := by
  unfold m_X6_mixCursors
  obtain ⟨v, e, rfl⟩ := lp (σ := Unit) (R := Int64) (fun t k _ => m_X6_mixCursors_p5 n t w h (dgC S k a) (nI k)) (fun _ _ => True) (fun v => v = dgC S 4 a) 4 (by
    rintro t k ⟨⟩ hk -
    left
    refine ⟨(), ?_, trivial⟩
    rw [m_X6_mixCursors_p5, if_neg (show ¬ (4 : Int32) ≤ nI k from nI_ge hk (by decide))]
    obtain ⟨u, e, -⟩ := lpk (σ := Unit) (τ := Unit) (R := Option Int64) (fun t' j _ => m_X6_mixCursors_p14 n (fun w b0 b3 b5 => m_X6_mixCursors_p5 n t w b0 b3 b5) t' w h (mxs (cuV S k) j (dgC S k a)) (nI k) (nI j)) (fun _ => m_X6_mixCursors_p5 n t w h (dgC S (k + 1) a) (nI (k + 1))) (fun _ _ => True) (fun _ => True) 6 (by
      rintro t' j ⟨⟩ hj -
      left
      refine ⟨(), ?_, trivial⟩
      rw [m_X6_mixCursors_p14, if_neg (show ¬ (5 : Int32) < nI j from nI_nlt (a := 5) (by omega) (by decide)), g.ck, Option.bind_some, m_cursor6 hn g hw hk hj, Option.bind_some, nI_1]
      rfl) (by
      rintro t' ⟨⟩ -
      exact ⟨(), by rw [m_X6_mixCursors_p14, if_pos (by decide), nI_1]; rfl, trivial⟩) 6 0 n () rfl (by omega) trivial
    exact e) (by
    rintro t ⟨⟩ -
    exact ⟨_, by rw [m_X6_mixCursors_p5, if_pos (by decide)], rfl⟩) 4 0 n () rfl (by omega) trivial
  exact e
set_option maxRecDepth 100000 in
theorem m_mixL {a : Int64} {l : Nat} (hn : 200 ≤ n) (g : ClI w h S P c) (hw : WF S) (hl : l < 5) : m_X6_mixLevel n w h a (nI l) = some (dgN S l (nds S l).length (mxs (fun x => nI (lvV S l x)) 5 a)) := by
  have h24 := nds_len hw l
  obtain ⟨fo, e0, fc⟩ := g.fo
  obtain ⟨cs, a1, a2, a3, a4, a5⟩ := fc.lev hw hl
  unfold m_X6_mixLevel
  obtain ⟨v, e, rfl⟩ := lp (σ := Unit) (R := Int64) (fun t k _ => m_X6_mixLevel_p6 n t w h (nI l) (mxs (fun x => nI (lvV S l x)) k a) (nI k)) (fun _ _ => True) (fun v => v = dgN S l (nds S l).length (mxs (fun x => nI (lvV S l x)) 5 a)) 5 (by
    rintro t k ⟨⟩ hk -
    left
    refine ⟨(), ?_, trivial⟩
    rw [m_X6_mixLevel_p6, if_neg (show ¬ (4 : Int32) < nI k from nI_nlt (a := 4) (by omega) (by decide)), g.ck, Option.bind_some, m_level6 hn g hw hl hk, Option.bind_some, nI_1]
    rfl) (by
    rintro t ⟨⟩ -
    show ∃ r, m_X6_mixLevel_p6 n (t + 1) w h (nI l) (mxs (fun x => nI (lvV S l x)) 5 a) (nI 5) = some r ∧ _
    rw [m_X6_mixLevel_p6, if_pos (by decide), m_X6_mixLevel_p35]
    generalize mxs (fun x => nI (lvV S l x)) 5 a = a
    refine lp (σ := Unit) (R := Int64) (fun t k _ => m_X6_mixLevel_p38 n t w h (nI l) (dgN S l k a) (nI k)) (fun _ _ => True) (fun v => v = dgN S l (nds S l).length a) (nds S l).length ?_ ?_ (nds S l).length 0 n () (by omega) (by omega) trivial
    · rintro t k ⟨⟩ hk -
      left
      refine ⟨(), ?_, trivial⟩
      rw [m_X6_mixLevel_p38, e0, Option.bind_some, fc.1.lv hl, a1.i3, Option.bind_some, if_neg (nI_ge hk (by omega))]
      obtain ⟨u, e, -⟩ := lpk (σ := Unit) (τ := Unit) (R := Option Int64) (fun t' j _ => m_X6_mixLevel_p58 n (fun w b0 b3 b4 b6 => m_X6_mixLevel_p38 n t w b0 b3 b4 b6) t' w h (nI l) (mxs (ndV S l k) j (dgN S l k a)) (nI k) (nI j)) (fun _ => m_X6_mixLevel_p38 n t w h (nI l) (dgN S l (k + 1) a) (nI (k + 1))) (fun _ _ => True) (fun _ => True) 6 (by
        rintro t' j ⟨⟩ hj -
        left
        refine ⟨(), ?_, trivial⟩
        rw [m_X6_mixLevel_p58, if_neg (show ¬ (5 : Int32) < nI j from nI_nlt (a := 5) (by omega) (by decide)), g.ck, Option.bind_some, (m_node6 hn g hw hl hk hj).2, Option.bind_some, nI_1]
        rfl) (by
        rintro t' ⟨⟩ -
        refine ⟨(), ?_, trivial⟩
        rw [m_X6_mixLevel_p58, if_pos (by decide), m_X6_mixLevel_p89]
        show m_X6_mixLevel_p92 n (fun w b0 b3 b4 b6 => m_X6_mixLevel_p38 n t w b0 b3 b4 b6) n w h (nI l) (mxs (ndV S l k) 6 (dgN S l k a)) (nI k) 0 = m_X6_mixLevel_p38 n t w h (nI l) (mxs (chV S l k) 4 (mxs (ndV S l k) 6 (dgN S l k a))) (nI (k + 1))
        generalize mxs (ndV S l k) 6 (dgN S l k a) = a
        obtain ⟨u, e, -⟩ := lpk (σ := Unit) (τ := Unit) (R := Option Int64) (fun t' j _ => m_X6_mixLevel_p92 n (fun w b0 b3 b4 b6 => m_X6_mixLevel_p38 n t w b0 b3 b4 b6) t' w h (nI l) (mxs (chV S l k) j a) (nI k) (nI j)) (fun _ => m_X6_mixLevel_p38 n t w h (nI l) (mxs (chV S l k) 4 a) (nI (k + 1))) (fun _ _ => True) (fun _ => True) 4 (by
          rintro t' j ⟨⟩ hj -
          left
          refine ⟨(), ?_, trivial⟩
          rw [m_X6_mixLevel_p92, if_neg (show ¬ (4 : Int32) ≤ nI j from nI_ge hj (by decide)), g.ck, Option.bind_some, (m_child6 hn g hw hl hk hj).2, Option.bind_some, nI_1]
          rfl) (by
          rintro t' ⟨⟩ -
          exact ⟨(), by rw [m_X6_mixLevel_p92, if_pos (by decide), nI_1], trivial⟩) 4 0 n () rfl (by omega) trivial
        exact e) 6 0 n () rfl (by omega) trivial
      exact e
    · rintro t ⟨⟩ -
      exact ⟨_, by rw [m_X6_mixLevel_p38, e0, Option.bind_some, fc.1.lv hl, a1.i3, Option.bind_some, if_pos (Int32.le_refl _)], rfl⟩) 5 0 n () rfl (by omega) trivial
  exact e
noncomputable def digN (S : Nat → Int32) (c L : Nat) : Int64 := mxs (clV (ouC S 24)) 3 (dgC S 4 (mixN (mixN (dgL S 5 (dgP S 24 (mixN (mixN (mixN 19606 (nI c)) (nI L)) (S 140)))) (nI (wstN S true 24))) (nI (wstN S false 24))))
theorem m_dgA {a : Int64} (hn : 200 ≤ n) (g : ClI w h S P c) (hw : WF S) : m_X6_digest_p106 n n w h a 0 = some (mxs (clV (ouC S 24)) 3 a) := by
  obtain ⟨v, e, hv⟩ := lp (σ := Unit) (R := Int64) (fun t k _ => m_X6_digest_p106 n t w h (mxs (clV (ouC S 24)) k a) (nI k)) (fun _ _ => True) (fun v => v = mxs (clV (ouC S 24)) 3 a) 3 (by
    rintro t k ⟨⟩ hk -
    left
    refine ⟨(), ?_, trivial⟩
    rw [m_X6_digest_p106, if_neg (show ¬ (2 : Int32) < nI k from nI_nlt (a := 2) (by omega) (by decide)), g.ck, Option.bind_some, m_close6 (by omega) g hw hk, Option.bind_some, nI_1]
    rfl) (by
    rintro t ⟨⟩ -
    exact ⟨_, by rw [m_X6_digest_p106, if_pos (by decide)], rfl⟩) 3 0 n () rfl (by omega) trivial
  rw [hv] at e
  exact e
theorem m_dgB {a : Int64} (hn : 200 ≤ n) (g : ClI w h S P c) (hw : WF S) : m_X6_digest_p72 n w h a = some (mxs (clV (ouC S 24)) 3 (dgC S 4 (mixN (mixN a (nI (wstN S true 24))) (nI (wstN S false 24))))) := by
  have e1 : m_X6_worst n w h 1 = some (nI (wstN S true 24)) := m_worst6 (sk := true) (by omega) g hw
  have e2 : m_X6_worst n w h 0 = some (nI (wstN S false 24)) := m_worst6 (sk := false) (by omega) g hw
  generalize nI (wstN S true 24) = v1 at e1 ⊢
  generalize nI (wstN S false 24) = v2 at e2 ⊢
  rw [m_X6_digest_p72, g.ck, Option.bind_some, e1, Option.bind_some, Option.bind_some, e2, Option.bind_some, Option.bind_some]
  have e3 : (31 * ((31 * a) + Int32.toInt64 v1)) + Int32.toInt64 v2 = mixN (mixN a v1) v2 := by
    unfold mixN
    exact Eq.refl _
  rw [e3]
  generalize mixN (mixN a v1) v2 = aa
  rw [m_mixC (by omega) g hw, Option.bind_some]
  exact m_dgA hn g hw
theorem m_dgC {a : Int64} (hn : 200 ≤ n) (g : ClI w h S P c) (hw : WF S) : m_X6_digest_p54 n n w h a 0 = some (mxs (clV (ouC S 24)) 3 (dgC S 4 (mixN (mixN (dgL S 5 a) (nI (wstN S true 24))) (nI (wstN S false 24))))) := by
  have key : ∀ r : Int64, (∀ x, m_X6_digest_p72 n w h x = some (mxs (clV (ouC S 24)) 3 (dgC S 4 (mixN (mixN x (nI (wstN S true 24))) (nI (wstN S false 24)))))) → r = dgL S 5 a → m_X6_digest_p54 n n w h a 0 = m_X6_digest_p72 n w h r := fun r hr er => by
    obtain ⟨v, e, hv⟩ := lpk (σ := Unit) (τ := Unit) (R := Option Int64) (fun t l _ => m_X6_digest_p54 n t w h (dgL S l a) (nI l)) (fun _ => m_X6_digest_p72 n w h r) (fun _ _ => True) (fun _ => True) 5 (by
      rintro t l ⟨⟩ hl -
      left
      refine ⟨(), ?_, trivial⟩
      rw [m_X6_digest_p54, if_neg (show ¬ (5 : Int32) ≤ nI l from nI_ge hl (by decide)), g.ck, Option.bind_some, m_mixL hn g hw hl, Option.bind_some, nI_1]
      rfl) (by
      rintro t ⟨⟩ -
      exact ⟨(), by rw [m_X6_digest_p54, if_pos (by decide), er], trivial⟩) 5 0 n () rfl (by omega) trivial
    exact e
  rw [key _ (fun x => m_dgB hn g hw) rfl]
  exact m_dgB hn g hw
theorem m_dg0 (hn : 200 ≤ n) (g : ClI w h S P c) (sc : ScC w (h + 48) L B) (hw : WF S) : m_X6_digest n w h = (m_X6_mixPoints n w h (mixN (mixN (mixN 19606 (nI c)) (nI L)) (S 140))).bind fun z9 => m_X6_digest_p54 n n w h z9 0 := by
  obtain ⟨F, t0, f0, fR⟩ := g.1
  have c1 := g.cnt
  have c2 := sc.len
  have c3 : m_X6_time n w h = some (S 140) := by
    rw [m_X6_time, g.n0, Option.bind_some, f0.i8, Option.bind_some, fR.2.2]
  generalize nI c = v1 at c1 ⊢
  generalize nI L = v2 at c2 ⊢
  generalize S 140 = v3 at c3 ⊢
  unfold m_X6_digest mixN
  generalize (19606 : Int64) = x
  rw [g.n1, Option.bind_some, c1, Option.bind_some, g.n2, Option.bind_some, c2, Option.bind_some, g.ck, Option.bind_some, c3, Option.bind_some]
  unfold nm1
  rfl
theorem m_digest6 (hn : 200 ≤ n) (g : ClI w h S P c) (sc : ScC w (h + 48) L B) (hw : WF S) : m_X6_digest n w h = some (digN S c L) := by
  rw [m_dg0 hn g sc hw, m_mixP (by omega) g hw, Option.bind_some, m_dgC hn g hw]
  unfold digN
  exact Eq.refl _
/-! the reference's -/
def DgI (w : Wd) (b : Nat) (I : Nat → Int32) (A : Rw) (a : Int64) (v : Wd) : Prop := ∃ I' J', MoC v b I' J' A ∧ Iq I I' ∧ J' 19 = a ∧ Fr w v b
variable {b : Nat} {I : Nat → Int32} {J : Nat → Int64} {A : Rw}
theorem k_mix {a : Int64} {v : Wd} {x : Int32} (H : DgI w b I A a v) : ∃ v', m_X7_mix n v b x = some v' ∧ DgI w b I A (mixN a x) v' := by
  obtain ⟨I1, J1, m, i1, j1, q1⟩ := H
  obtain ⟨v1, e1, m1, q2⟩ := m.q19 (mixN a x)
  refine ⟨v1, ?_, I1, _, m1, i1, setJ_self, fun z hz => (q2 z hz).trans (q1 z hz)⟩
  rw [m_X7_mix, m.j19, Option.bind_some, j1]
  exact e1.symm ▸ rfl
theorem DgI.to {a : Int64} {v v' : Wd} {I1 I' : Nat → Int32} {J1 : Nat → Int64} (i1 : Iq I I1) (j1 : J1 19 = a) (q1 : Fr w v b) (m : MoC v' b I' J1 A) (i : Iq I1 I') (q : Fr v v' b) : DgI w b I A a v' := ⟨I', J1, m, i1.tr i, j1, fun z hz => (q z hz).trans (q1 z hz)⟩
theorem k_nodes {l : Nat} {a : Int64} {v : Wd} (hn : 200 ≤ n) (hr : Row A S) (hw : WF S) (hl : l < 5) (ht : Tb A 4 5 l (nds S l)) (H : DgI w b I A a v) : ∃ v', m_X7_mixNodes n v b (nI l) = some v' ∧ DgI w b I A (dgN S l (nds S l).length a) v' := by
  have h24 := nds_len hw l
  unfold m_X7_mixNodes
  refine lp (σ := Wd) (R := Wd) (fun t k v => m_X7_mixNodes_p2 n t v b (nI l) (nI k)) (fun k v => DgI w b I A (dgN S l k a) v) _ (nds S l).length ?_ ?_ (nds S l).length 0 n v (by omega) (by omega) H
  · rintro t k v hk H
    left
    obtain ⟨I1, J1, m, -⟩ := id H
    show ∃ s', m_X7_mixNodes_p2 n (t + 1) v b (nI l) (nI k) = _ ∧ _
    rw [m_X7_mixNodes_p2, m.g8, Option.bind_some, m.r8 hl, Option.bind_some, ht.1, if_neg (nI_ge hk (by omega))]
    refine lpk (σ := Wd) (τ := Wd) (R := Option Wd) (fun t' j v => m_X7_mixNodes_p14 n (fun w b0 b1 b2 => m_X7_mixNodes_p2 n t w b0 b1 b2) t' v b (nI l) (nI k) (nI j)) (fun v => m_X7_mixNodes_p2 n t v b (nI l) (nI (k + 1))) (fun j v => DgI w b I A (mxs (ndV S l k) j (dgN S l k a)) v) _ 6 ?_ ?_ 6 0 n v rfl (by omega) H
    · rintro t' j v hj H
      left
      obtain ⟨I1, J1, m, i1, j1, q1⟩ := H
      obtain ⟨v1, I2, e1, m1, i2, q2⟩ := k_tellNode (n := n) (what := j) hn m hr hw hl ht hk hj
      obtain ⟨v2, e2, H2⟩ := k_mix (n := n) (x := ndV S l k j) (DgI.to i1 j1 q1 m1 i2 q2)
      refine ⟨v2, ?_, H2⟩
      show m_X7_mixNodes_p14 n _ (t' + 1) v b (nI l) (nI k) (nI j) = _
      rw [m_X7_mixNodes_p14, if_neg (show ¬ (6 : Int32) ≤ nI j from nI_ge hj (by decide)), m.c, Option.bind_some, e1, Option.bind_some, m1.c, Option.bind_some, e2, Option.bind_some, nI_1]
    · rintro t' v H
      show ∃ r, m_X7_mixNodes_p14 n _ (t' + 1) v b (nI l) (nI k) (nI 6) = _ ∧ _
      rw [m_X7_mixNodes_p14, if_pos (by decide), m_X7_mixNodes_p37]
      refine lpk (σ := Wd) (τ := Wd) (R := Option Wd) (fun t' j v => m_X7_mixNodes_p39 n (fun w b0 b1 b2 => m_X7_mixNodes_p2 n t w b0 b1 b2) t' v b (nI l) (nI k) (nI j)) (fun v => m_X7_mixNodes_p2 n t v b (nI l) (nI (k + 1))) (fun j v => DgI w b I A (mxs (chV S l k) j (mxs (ndV S l k) 6 (dgN S l k a))) v) _ 4 ?_ ?_ 4 0 n v rfl (by omega) H
      · rintro t' j v hj H
        left
        obtain ⟨I1, J1, m, i1, j1, q1⟩ := H
        obtain ⟨v1, I2, e1, m1, i2, q2⟩ := k_tellChild (n := n) (d := j) (by omega) m hr hw ht hl hk hj
        obtain ⟨v2, e2, H2⟩ := k_mix (n := n) (x := chV S l k j) (DgI.to i1 j1 q1 m1 i2 q2)
        refine ⟨v2, ?_, H2⟩
        show m_X7_mixNodes_p39 n _ (t' + 1) v b (nI l) (nI k) (nI j) = _
        rw [m_X7_mixNodes_p39, if_neg (show ¬ (4 : Int32) ≤ nI j from nI_ge hj (by decide)), m.c, Option.bind_some, e1, Option.bind_some, m1.c, Option.bind_some, show m_X7_mix n v1 b (tell (nds S l) (kidN (cdS S l) ((nds S l).getD k 0) j)) = some v2 from e2, Option.bind_some, nI_1]
      · rintro t' v H
        refine ⟨v, ?_, H⟩
        show m_X7_mixNodes_p39 n _ (t' + 1) v b (nI l) (nI k) (nI 4) = _
        rw [m_X7_mixNodes_p39, if_pos (by decide), nI_1]
  · rintro t v H
    obtain ⟨I1, J1, m, -⟩ := id H
    refine ⟨v, ?_, H⟩
    show m_X7_mixNodes_p2 n (t + 1) v b (nI l) (nI (nds S l).length) = _
    rw [m_X7_mixNodes_p2, m.g8, Option.bind_some, m.r8 hl, Option.bind_some, ht.1, if_pos (Int32.le_refl _)]
theorem k_dig180 {a : Int64} {v : Wd} (hn : 60 ≤ n) (hr : Row A S) (hw : WF S) (H : DgI w b I A a v) : ∃ z, m_X7_digest_p180 n n v b 0 = some z ∧ (z.1 = mxs (clV (ouC S 24)) 3 a ∧ DgI w b I A (mxs (clV (ouC S 24)) 3 a) z.2) := by
  refine lp (σ := Wd) (R := Int64 × Wd) (fun t k v => m_X7_digest_p180 n t v b (nI k)) (fun k v => DgI w b I A (mxs (clV (ouC S 24)) k a) v) _ 3 ?_ ?_ 3 0 n v rfl (by omega) H
  · rintro t k v hk H
    left
    obtain ⟨I1, J1, m, -⟩ := id H
    obtain ⟨v2, e2, H2⟩ := k_mix (n := n) (x := clV (ouC S 24) k) H
    refine ⟨v2, ?_, H2⟩
    show m_X7_digest_p180 n (t + 1) v b (nI k) = _
    rw [m_X7_digest_p180, if_neg (show ¬ (3 : Int32) ≤ nI k from nI_ge hk (by decide)), m.c, Option.bind_some, k_close hn m hr hw hk, Option.bind_some, Option.bind_some, e2, Option.bind_some, nI_1]
  · rintro t v H
    obtain ⟨I1, J1, m, i1, j1, q1⟩ := id H
    refine ⟨(J1 19, v), ?_, j1, H⟩
    show m_X7_digest_p180 n (t + 1) v b (nI 3) = _
    rw [m_X7_digest_p180, if_pos (by decide), m.j19, Option.bind_some]
theorem k_dig143 {a : Int64} {v : Wd} (hn : 60 ≤ n) (hr : Row A S) (hw : WF S) (ht : Tb A 4 5 0 (nds S 0)) (H : DgI w b I A a v) : ∃ z, m_X7_digest_p143 n n v b 0 = some z ∧ (z.1 = mxs (clV (ouC S 24)) 3 (dgC S 4 a) ∧ DgI w b I A (mxs (clV (ouC S 24)) 3 (dgC S 4 a)) z.2) := by
  refine lp (σ := Wd) (R := Int64 × Wd) (fun t k v => m_X7_digest_p143 n t v b (nI k)) (fun k v => DgI w b I A (dgC S k a) v) _ 4 ?_ ?_ 4 0 n v rfl (by omega) H
  · rintro t k v hk H
    left
    show ∃ s', m_X7_digest_p143 n (t + 1) v b (nI k) = _ ∧ _
    rw [m_X7_digest_p143, if_neg (show ¬ (4 : Int32) ≤ nI k from nI_ge hk (by decide))]
    refine lpk (σ := Wd) (τ := Wd) (R := Option (Int64 × Wd)) (fun t' j v => m_X7_digest_p150 n (fun w b0 b1 => m_X7_digest_p143 n t w b0 b1) t' v b (nI k) (nI j)) (fun v => m_X7_digest_p143 n t v b (nI (k + 1))) (fun j v => DgI w b I A (mxs (cuV S k) j (dgC S k a)) v) _ 6 ?_ ?_ 6 0 n v rfl (by omega) H
    · rintro t' j v hj H
      left
      obtain ⟨I1, J1, m, -⟩ := id H
      obtain ⟨v2, e2, H2⟩ := k_mix (n := n) (x := cuV S k j) H
      refine ⟨v2, ?_, H2⟩
      show m_X7_digest_p150 n _ (t' + 1) v b (nI k) (nI j) = _
      rw [m_X7_digest_p150, if_neg (show ¬ (6 : Int32) ≤ nI j from nI_ge hj (by decide)), m.c, Option.bind_some, k_tellCursor hn m hr hw ht hk hj, Option.bind_some, Option.bind_some, e2, Option.bind_some, nI_1]
    · rintro t' v H
      refine ⟨v, ?_, H⟩
      show m_X7_digest_p150 n _ (t' + 1) v b (nI k) (nI 6) = _
      rw [m_X7_digest_p150, if_pos (by decide), nI_1]
  · rintro t v H
    show ∃ r, m_X7_digest_p143 n (t + 1) v b (nI 4) = some r ∧ _
    rw [m_X7_digest_p143, if_pos (by decide), m_X7_digest_p178]
    exact k_dig180 hn hr hw H
theorem k_dig84 {a : Int64} {v : Wd} (hn : 200 ≤ n) (hr : Row A S) (hw : WF S) (ht : ∀ l, l < 5 → Tb A 4 5 l (nds S l)) (H : DgI w b I A a v) : ∃ z, m_X7_digest_p84 n n v b 0 = some z ∧ (z.1 = mxs (clV (ouC S 24)) 3 (dgC S 4 (mixN (mixN (dgL S 5 a) (nI (wstN S true 24))) (nI (wstN S false 24)))) ∧ DgI w b I A (mxs (clV (ouC S 24)) 3 (dgC S 4 (mixN (mixN (dgL S 5 a) (nI (wstN S true 24))) (nI (wstN S false 24))))) z.2) := by
  refine lp (σ := Wd) (R := Int64 × Wd) (fun t l v => m_X7_digest_p84 n t v b (nI l)) (fun l v => DgI w b I A (dgL S l a) v) _ 5 ?_ ?_ 5 0 n v rfl (by omega) H
  · rintro t l v hl H
    left
    show ∃ s', m_X7_digest_p84 n (t + 1) v b (nI l) = _ ∧ _
    rw [m_X7_digest_p84, if_neg (show ¬ (5 : Int32) ≤ nI l from nI_ge hl (by decide))]
    refine lpk (σ := Wd) (τ := Wd) (R := Option (Int64 × Wd)) (fun t' j v => m_X7_digest_p91 n (fun w b0 b1 => m_X7_digest_p84 n t w b0 b1) t' v b (nI l) (nI j)) (fun v => m_X7_digest_p84 n t v b (nI (l + 1))) (fun j v => DgI w b I A (mxs (fun x => nI (lvV S l x)) j (dgL S l a)) v) _ 5 ?_ ?_ 5 0 n v rfl (by omega) H
    · rintro t' j v hj H
      left
      obtain ⟨I1, J1, m, i1, j1, q1⟩ := H
      obtain ⟨v1, I2, e1, m1, i2, q2⟩ := k_tellLevel (n := n) (what := j) hn m hr hw hl (ht l hl) hj
      obtain ⟨v2, e2, H2⟩ := k_mix (n := n) (x := nI (lvV S l j)) (DgI.to i1 j1 q1 m1 i2 q2)
      refine ⟨v2, ?_, H2⟩
      show m_X7_digest_p91 n _ (t' + 1) v b (nI l) (nI j) = _
      rw [m_X7_digest_p91, if_neg (show ¬ (5 : Int32) ≤ nI j from nI_ge hj (by decide)), m.c, Option.bind_some, e1, Option.bind_some, m1.c, Option.bind_some, e2, Option.bind_some, nI_1]
    · rintro t' v H
      obtain ⟨I1, J1, m, -⟩ := id H
      obtain ⟨v2, e2, H2⟩ := k_nodes (n := n) hn hr hw hl (ht l hl) H
      refine ⟨v2, ?_, H2⟩
      show m_X7_digest_p91 n _ (t' + 1) v b (nI l) (nI 5) = _
      rw [m_X7_digest_p91, if_pos (by decide), m_X7_digest_p112, m.c, Option.bind_some, e2, Option.bind_some, nI_1]
  · rintro t v H
    show ∃ r, m_X7_digest_p84 n (t + 1) v b (nI 5) = some r ∧ _
    rw [m_X7_digest_p84, if_pos (by decide), m_X7_digest_p123]
    obtain ⟨I1, J1, m, i1, j1, q1⟩ := H
    obtain ⟨v1, I2, e1, m1, i2, q2⟩ := k_most (n := n) (sk := true) (by omega) m hr hw
    obtain ⟨v2, e2, H2⟩ := k_mix (n := n) (x := nI (wstN S true 24)) (DgI.to i1 j1 q1 m1 i2 q2)
    obtain ⟨I3, J3, m3, i3, j3, q3⟩ := H2
    obtain ⟨v4, I4, e4, m4, i4, q4⟩ := k_most (n := n) (sk := false) (by omega) m3 hr hw
    obtain ⟨v5, e5, H5⟩ := k_mix (n := n) (x := nI (wstN S false 24)) (DgI.to i3 j3 q3 m4 i4 q4)
    rw [m.c, Option.bind_some, show m_X7_most n v b 1 = some (nI (wstN S true 24), v1) from e1, Option.bind_some, m1.c, Option.bind_some, e2, Option.bind_some, m3.c, Option.bind_some, show m_X7_most n v2 b 0 = some (nI (wstN S false 24), v4) from e4, Option.bind_some, m4.c, Option.bind_some, e5, Option.bind_some]
    exact k_dig143 (by omega) hr hw (ht 0 (by decide)) H5
theorem k_dig46 {a : Int64} {v : Wd} (hn : 200 ≤ n) (hr : Row A S) (hw : WF S) (ht : ∀ l, l < 5 → Tb A 4 5 l (nds S l)) (H : DgI w b I A a v) : ∃ z, m_X7_digest_p46 n n v b 0 = some z ∧ (z.1 = mxs (clV (ouC S 24)) 3 (dgC S 4 (mixN (mixN (dgL S 5 (dgP S 24 a)) (nI (wstN S true 24))) (nI (wstN S false 24)))) ∧ DgI w b I A (mxs (clV (ouC S 24)) 3 (dgC S 4 (mixN (mixN (dgL S 5 (dgP S 24 a)) (nI (wstN S true 24))) (nI (wstN S false 24))))) z.2) := by
  refine lp (σ := Wd) (R := Int64 × Wd) (fun t k v => m_X7_digest_p46 n t v b (nI k)) (fun k v => DgI w b I A (dgP S k a) v) _ 24 ?_ ?_ 24 0 n v rfl (by omega) H
  · rintro t k v hk H
    left
    show ∃ s', m_X7_digest_p46 n (t + 1) v b (nI k) = _ ∧ _
    rw [m_X7_digest_p46, if_neg (show ¬ (24 : Int32) ≤ nI k from nI_ge hk (by decide))]
    refine lpk (σ := Wd) (τ := Wd) (R := Option (Int64 × Wd)) (fun t' j v => m_X7_digest_p54 n (fun w b0 b1 => m_X7_digest_p46 n t w b0 b1) t' v b (nI k) (nI j)) (fun v => m_X7_digest_p46 n t v b (nI (k + 1))) (fun j v => DgI w b I A (mxs (ptV S k) j (dgP S k a)) v) _ 6 ?_ ?_ 6 0 n v rfl (by omega) H
    · rintro t' j v hj H
      left
      obtain ⟨I1, J1, m, -⟩ := id H
      obtain ⟨v2, e2, H2⟩ := k_mix (n := n) (x := ptV S k j) H
      refine ⟨v2, ?_, H2⟩
      show m_X7_digest_p54 n _ (t' + 1) v b (nI k) (nI j) = _
      rw [m_X7_digest_p54, if_neg (show ¬ (6 : Int32) ≤ nI j from nI_ge hj (by decide)), m.c, Option.bind_some, k_tellPoint (by omega) m hr hk hj, Option.bind_some, Option.bind_some, e2, Option.bind_some, nI_1]
    · rintro t' v H
      refine ⟨v, ?_, H⟩
      show m_X7_digest_p54 n _ (t' + 1) v b (nI k) (nI 6) = _
      rw [m_X7_digest_p54, if_pos (by decide), nI_1]
  · rintro t v H
    show ∃ r, m_X7_digest_p46 n (t + 1) v b (nI 24) = some r ∧ _
    rw [m_X7_digest_p46, if_pos (by decide), m_X7_digest_p82]
    exact k_dig84 hn hr hw ht H
theorem B_digest (hn : 600 ≤ n) (H : InvK h w) : ∃ w', mc_24 K n w h (h + 87) (h + 97) xs i = some w' ∧ InvK h w' := by
  obtain ⟨S, P, c, L, B, r, H⟩ := H
  have H0 := H
  obtain ⟨hw, g, sc, ⟨I, J, A, m⟩, o⟩ := H
  obtain ⟨w1, e1, h1, q1⟩ := m.1.p4 0
  have m1 : Mo w1 (h + 87) (setI I 4 0) J A S P c L B 0 := by
    obtain ⟨-, h2, h3, h4, h5, h6, h7⟩ := m
    exact ⟨h1, h2, ⟨by rw [setI_ne (by decide)]; exact h3.1, h3.2⟩, h4, ⟨by rw [setI_ne (by decide)]; exact h5.1, h5.2⟩, h6, setI_self⟩
  obtain ⟨w2, A2, e2, m2, t2, q2⟩ := k_lays (n := n) (by omega) m1 hw
  obtain ⟨w3, e3, m3, q3⟩ := m2.1.q19 19606
  have D3 : DgI w (h + 87) (setI I 4 0) A2 19606 w3 := ⟨_, _, m3, Iq.rf, setJ_self, fun z hz => (q3 z hz).trans ((q2 z hz).trans (q1 z hz))⟩
  obtain ⟨w4, e4, D4⟩ := k_mix (n := n) (x := nI c) D3
  obtain ⟨w5, e5, D5⟩ := k_mix (n := n) (x := nI L) D4
  obtain ⟨w6, e6, D6⟩ := k_mix (n := n) (x := S 140) D5
  obtain ⟨⟨zv, w7⟩, e7, e8, D7⟩ := k_dig46 (n := n) (by omega) m2.2.1 hw t2 D6
  change zv = digN S c L at e8
  subst e8
  obtain ⟨I4, J4, m4, i4, -, -⟩ := D4
  obtain ⟨I5, J5, m5, i5', -, -⟩ := D5
  obtain ⟨I6, J6, m6, i6, -, -⟩ := D6
  obtain ⟨I7, J7, m7, i7, -, q7⟩ := D7
  have r140 : agI 0 w5 (h + 87 + 1) 140 = some (S 140) := by
    rw [show agI 0 w5 (h + 87 + 1) 140 = some (A2 0 140) from m5.r0 (k := 140) (by decide), m2.2.1 140 (by decide)]
  refine ⟨w7, ?_, case_raw H0 (r' := 0) hw g sc (fun _ _ => rfl) ⟨_, _, _, m2.to m7 m2.2.1 (fun k hk => i7 k (by omega)) fun _ _ _ => rfl⟩ q7⟩
  rw [mc_24, g.ck, Option.bind_some, m_digest6 (by omega) g sc hw, Option.bind_some, m.ck, Option.bind_some, m_X7_digest, e1, Option.bind_some, m1.ck, Option.bind_some, e2, Option.bind_some, e3, Option.bind_some, m3.i3, Option.bind_some, m3.c, Option.bind_some, m2.2.2.1.1, e4, Option.bind_some, m4.i6, Option.bind_some, m4.c, Option.bind_some, i4 6 (by omega), m2.2.2.2.2.1.1, e5, Option.bind_some, m5.g0, Option.bind_some, r140, Option.bind_some, m5.c, Option.bind_some, e6, Option.bind_some, e7, Option.bind_some, lg_same, if_pos rfl]
end DG
