/-! THE CLASS'S INVARIANT, and its changes -/
def FSp (h fo sp : Nat) : Prop := fo = h + 51 ∧ sp = h + 69 ∨ fo = h + 69 ∧ sp = h + 51
/-- the points are those of S', the forest is still that of S -/
def ClJ (w : Wd) (h : Nat) (S S' : Nat → Int32) (P : Nat → Nat → Int32) (c : Nat) : Prop :=
  StW w (h + 1) S' ∧ (∃ t, Rg w h t c P) ∧ ∃ fo sp, FSp h fo sp ∧ ObC w h fo sp ∧ FoC w fo S ∧ FoX w sp
abbrev ClI (w : Wd) (h : Nat) (S : Nat → Int32) (P : Nat → Nat → Int32) (c : Nat) : Prop := ClJ w h S S P c
abbrev FrC (w w' : Wd) (h : Nat) : Prop := ∀ q, (q < h ∨ h + 47 < q ∧ q < h + 51 ∨ h + 86 < q) → w' q = w q
section CJ
variable {n h c i : Nat} {w w' : Wd} {S S' : Nat → Int32} {P : Nat → Nat → Int32}
theorem ClJ.frame (g : ClJ w h S S' P c) (hq : ∀ q, h ≤ q → q ≤ h + 86 → (q ≤ h + 47 ∨ h + 51 ≤ q) → w' q = w q) : ClJ w' h S S' P c := by
  obtain ⟨h1, ⟨t, h2⟩, fo, sp, h3, h4, h5, h6⟩ := g
  refine ⟨h1.frame fun q a b => hq q (by omega) (by omega) (by omega), ⟨t, h2.frame fun q a b => hq q (by omega) (by omega) (by omega)⟩, fo, sp, h3, ?_, h5.frame fun q a b => ?_, h6.frame fun q a b => ?_⟩
  · unfold ObC
    rw [hq h (by omega) (by omega) (by omega)]
    exact h4
  · unfold FSp at h3
    exact hq q (by omega) (by omega) (by omega)
  · unfold FSp at h3
    exact hq q (by omega) (by omega) (by omega)
theorem ClJ.n0 (g : ClJ w h S S' P c) : gfR 5 0 w h = some (h + 1) := by
  obtain ⟨-, -, fo, sp, -, h4, -, -⟩ := g
  exact gfR_at h4 rfl
theorem ClJ.n1 (g : ClJ w h S S' P c) : gfR 5 1 w h = some (h + 10) := by
  obtain ⟨-, -, fo, sp, -, h4, -, -⟩ := g
  exact gfR_at h4 rfl
theorem ClJ.n2 (g : ClJ w h S S' P c) : gfR 5 2 w h = some (h + 48) := by
  obtain ⟨-, -, fo, sp, -, h4, -, -⟩ := g
  exact gfR_at h4 rfl
theorem ClJ.ck (g : ClJ w h S S' P c) : chk 5 w h = some () := by
  obtain ⟨-, -, fo, sp, -, h4, -, -⟩ := g
  exact chk_at h4
theorem ClJ.ck3 (g : ClJ w h S S' P c) : chk 3 w (h + 1) = some () := by
  obtain ⟨⟨F, t, h1, -⟩, -⟩ := g
  exact chk_at h1.1
theorem ClJ.ck4 (g : ClJ w h S S' P c) : chk 4 w (h + 10) = some () := by
  obtain ⟨-, ⟨t, -, -, h1, -⟩, -⟩ := g
  exact chk_at h1.1
theorem ClJ.cnt (g : ClJ w h S S' P c) : gfI 4 2 w (h + 10) = some (nI c) := by
  obtain ⟨-, ⟨t, -, -, h1, -⟩, -⟩ := g
  exact gfI_at h1.1 rfl
/-- a change of the state's own cells -/
theorem ClJ.st {T : Nat → Int32} (g : ClJ w h S S' P c) (h1 : StW w' (h + 1) T) (hq : FrS w w' (h + 1)) : ClJ w' h S T P c ∧ FrC w w' h := by
  obtain ⟨-, ⟨t, h2⟩, fo, sp, h3, h4, h5, h6⟩ := g
  refine ⟨⟨h1, ⟨t, h2.frame fun q a b => hq q (by omega)⟩, fo, sp, h3, ?_, h5.frame fun q a b => ?_, h6.frame fun q a b => ?_⟩, fun q a => hq q (by omega)⟩
  · unfold ObC
    rw [hq h (by omega)]
    exact h4
  · unfold FSp at h3
    exact hq q (by omega)
  · unfold FSp at h3
    exact hq q (by omega)
theorem m_put6 {x y : Int32} (g : ClJ w h S S' P c) (hi : i < 24) : ∃ w', m_X4_put n w (h + 1) (nI i) x y = some w' ∧ ClJ w' h S (putS S' i x y) P c ∧ FrC w w' h := by
  obtain ⟨w1, e1, h1, q1⟩ := m_put (n := n) (x := x) (y := y) g.1 hi
  exact ⟨w1, e1, g.st h1 q1⟩
theorem m_settle6 (hn : 80 ≤ n) (g : ClJ w h S S' P c) (hw : WF S) (hw' : WF S') : ∃ w', m_X6_settle n w h = some (nI (touK S S' 5), w') ∧ ClI w' h S' P c ∧ FrC w w' h := by
  obtain ⟨h1, ⟨t, h2⟩, fo, sp, h3, h4, h5, h6⟩ := g
  unfold FSp at h3
  obtain ⟨w1, e1, a1, a2, a3, q1⟩ := m_settle hn h4 h5 h6 h1 hw hw' (by omega) (by omega) (by omega)
  refine ⟨w1, e1, ⟨h1.frame fun q a b => q1 q (by omega) (by omega), ⟨t, h2.frame fun q a b => q1 q (by omega) (by omega)⟩, sp, fo, ?_, a1, a2, a3.x⟩, fun q a => q1 q (by omega) (by omega)⟩
  unfold FSp
  omega
theorem m_place6 {x y : Nat} (hn : 80 ≤ n) (g : ClI w h S P c) (hw : WF S) (hi : i < 24) (hx : x < 64) (hy : y < 64) : ∃ w', m_X6_place n w h (nI i) (nI x) (nI y) = some (nI (touK S (putS S i (nI x) (nI y)) 5), w') ∧ ClI w' h (putS S i (nI x) (nI y)) P c ∧ FrC w w' h := by
  obtain ⟨w1, e1, h1, q1⟩ := m_put6 (n := n) (x := nI x) (y := nI y) g hi
  obtain ⟨w2, e2, h2, q2⟩ := m_settle6 hn h1 hw (hw.put hi hx hy)
  refine ⟨w2, ?_, h2, fun q a => (q2 q a).trans (q1 q a)⟩
  rw [m_X6_place, g.n0, Option.bind_some, g.ck3, Option.bind_some, e1, Option.bind_some, h1.ck, Option.bind_some, e2, Option.bind_some]
theorem m_takeOut6 (hn : 80 ≤ n) (g : ClI w h S P c) (hw : WF S) (hi : i < 24) : ∃ w', m_X6_takeOut n w h (nI i) = some (nI (touK S (clrS S i) 5), w') ∧ ClI w' h (clrS S i) P c ∧ FrC w w' h := by
  obtain ⟨w1, e1, h1, q1⟩ := m_clr (n := n) g.1 hi
  obtain ⟨h1, q1⟩ := g.st h1 q1
  obtain ⟨w2, e2, h2, q2⟩ := m_settle6 hn h1 hw (hw.clr hi)
  refine ⟨w2, ?_, h2, fun q a => (q2 q a).trans (q1 q a)⟩
  rw [m_X6_takeOut, g.n0, Option.bind_some, g.ck3, Option.bind_some, e1, Option.bind_some, h1.ck, Option.bind_some, e2, Option.bind_some]
/-- rows with the same points have the same forest -/
def SameP (S S' : Nat → Int32) : Prop := ∀ i, i < 24 → S' (5 * i) = S (5 * i) ∧ S' (5 * i + 1) = S (5 * i + 1) ∧ S' (5 * i + 2) = S (5 * i + 2)
theorem SameP.ids (h : SameP S S') : ∀ {k : Nat}, k ≤ 24 → idsS S' k = idsS S k := by
  intro k hk
  unfold idsS
  refine List.filter_congr fun i hi => ?_
  rw [(h i (Nat.lt_of_lt_of_le (List.mem_range.mp hi) hk)).1]
theorem SameP.code (h : SameP S S') (hi : i < 24) : codeS S' i = codeS S i := by
  unfold codeS
  rw [(h i hi).2.1, (h i hi).2.2]
theorem SameP.es (h : SameP S S') {es : List Nat} (g : EsOf S 24 es) : EsOf S' 24 es := by
  refine ⟨g.1, ?_⟩
  rw [h.ids (Nat.le_refl _), show (idsS S 24).map (ent S') = (idsS S 24).map (ent S) from List.map_congr_left fun i hi => by
    unfold ent
    rw [h.code (idsS_mem.mp hi).1]]
  exact g.2
theorem SameP.fo (h : SameP S S') {a : Nat} (g : FoC w a S) : FoC w a S' := by
  obtain ⟨h1, es, h2, h3, h4⟩ := g
  exact ⟨h1, es, h2, h.es h3, h4⟩
theorem ClJ.same (g : ClJ w h S S' P c) (e : SameP S S') : ClI w h S' P c := by
  obtain ⟨h1, h2, fo, sp, h3, h4, h5, h6⟩ := g
  exact ⟨h1, h2, fo, sp, h3, h4, e.fo h5, h6⟩
theorem same_spd {u v : Int32} : SameP S (spdS S i u v) := fun j hj => by
  unfold spdS
  refine ⟨?_, ?_, ?_⟩ <;> rw [pk_un (by omega), pk_un (by omega)]
theorem m_setSpeed6 {u v : Int32} (g : ClI w h S P c) (hi : i < 24) : ∃ w', m_X6_setSpeed n w h (nI i) u v = some w' ∧ ClI w' h (spdS S i u v) P c ∧ FrC w w' h := by
  obtain ⟨F, t, h0, hR⟩ := g.1
  obtain ⟨w1, e1, h1, q1⟩ := h0.w3 u hi
  obtain ⟨g1, qq1⟩ := g.st ⟨_, t, h1, hR.up (j := 3) (by decide) hi⟩ q1
  obtain ⟨w2, e2, h2, q2⟩ := h1.w4 v hi
  obtain ⟨g2, qq2⟩ := g1.st ⟨_, t, h2, (hR.up (j := 3) (by decide) hi).up (j := 4) (by decide) hi⟩ q2
  refine ⟨w2, ?_, g2.same same_spd, fun q a => (qq2 q a).trans (qq1 q a)⟩
  rw [m_X6_setSpeed, g.n0, Option.bind_some, h0.q3, Option.bind_some, e1, Option.bind_some, g1.n0, Option.bind_some, h1.q4, Option.bind_some, e2, Option.bind_some]
/-- ticks -/
def stepN (S : Nat → Int32) : Nat → Nat → Int32
  | 0 => S
  | k + 1 => stepS (stepN S k)
noncomputable def pasT (S : Nat → Int32) : Nat → Nat
  | 0 => 0
  | k + 1 => pasT S k + touK (stepN S k) (stepN S (k + 1)) 5
theorem WF.oneN (hw : WF S) : ∀ (k : Nat), WF (stepN S k)
  | 0 => hw
  | k + 1 => (WF.oneN hw k).oneS
theorem m_letPass6 {m : Nat} (hn : 80 ≤ n) (g : ClI w h S P c) (hw : WF S) (hm : m ≤ 50) : ∃ w', m_X6_letPass n w h (nI m) = some (nI (pasT S m), w') ∧ ClI w' h (stepN S m) P c ∧ FrC w w' h := by
  unfold m_X6_letPass
  obtain ⟨r, e, w2, rfl, h1, h2⟩ := lp (σ := Wd) (R := Int32 × Wd) (fun t k v => m_X6_letPass_p4 n t v h (nI m) (nI (pasT S k)) (nI k)) (fun k v => ClI v h (stepN S k) P c ∧ FrC w v h) (fun r => ∃ w2, r = (nI (pasT S m), w2) ∧ ClI w2 h (stepN S m) P c ∧ FrC w w2 h) m (by
    rintro t k v hk ⟨h0, hq⟩
    left
    obtain ⟨w1, e1, h1, q1⟩ := m_step (n := n) (by omega) h0.1
    obtain ⟨h1, q1⟩ := h0.st h1 q1
    obtain ⟨w2, e2, h2, q2⟩ := m_settle6 hn h1 (hw.oneN k) (hw.oneN (k + 1))
    refine ⟨w2, ?_, h2, fun q a => (q2 q a).trans ((q1 q a).trans (hq q a))⟩
    show m_X6_letPass_p4 n (t + 1) v h (nI m) (nI (pasT S k)) (nI k) = _
    rw [m_X6_letPass_p4, if_neg (nI_ge hk (by omega)), h0.n0, Option.bind_some, h0.ck3, Option.bind_some, e1, Option.bind_some, h1.ck, Option.bind_some, e2, Option.bind_some, nI_add, nI_1]
    rfl) (by
    rintro t v ⟨h0, hq⟩
    refine ⟨(nI (pasT S m), v), ?_, v, rfl, h0, hq⟩
    show m_X6_letPass_p4 n (t + 1) v h (nI m) (nI (pasT S m)) (nI m) = _
    rw [m_X6_letPass_p4, if_pos (Int32.le_refl _)]) m 0 n w (by omega) (by omega) ⟨g, fun _ _ => rfl⟩
  exact ⟨w2, e, h1, h2⟩
theorem m_push6 (hn : 80 ≤ n) (g : ClI w h S P c) (hw : WF S) : ∃ w', m_X5_push n w (h + 10) (h + 1) = some w' ∧ ClI w' h S (pshP c S P) (min (c + 1) 4) ∧ FrC w w' h := by
  obtain ⟨h1, ⟨t, h2⟩, fo, sp, h3, h4, h5, h6⟩ := g
  obtain ⟨w1, e1, a1, q1⟩ := m_push (n := n) (by omega) h1 hw h2
  refine ⟨w1, e1, ⟨h1.frame fun q a b => q1 q (by omega), ⟨_, a1⟩, fo, sp, h3, ?_, h5.frame fun q a b => ?_, h6.frame fun q a b => ?_⟩, fun q a => q1 q (by omega)⟩
  · unfold ObC
    rw [q1 h (by omega)]
    exact h4
  · unfold FSp at h3
    exact q1 q (by omega)
  · unfold FSp at h3
    exact q1 q (by omega)
/-! what is refused -/
theorem ins_c (a : Int32) {m : Nat} (hm : m < 2 ^ 31) : m_X6_inside a 0 (nI m) = 0 ∨ m_X6_inside a 0 (nI m) = 1 ∧ ∃ i, i ≤ m ∧ a = nI i := by
  unfold m_X6_inside
  by_cases h1 : a < 0
  · exact Or.inl (if_pos h1)
  · rw [if_neg h1]
    by_cases h2 : nI m < a
    · exact Or.inl (if_pos h2)
    · rw [if_neg h2]
      obtain ⟨j, hj, e⟩ := nI_of2 (nI_toInt hm) h1 (Int32.not_lt.mp h2)
      exact Or.inr ⟨rfl, j, hj, e⟩
theorem ins_1 {i m : Nat} (hm : m < 2 ^ 31) (h : i ≤ m) : m_X6_inside (nI i) 0 (nI m) = 1 := by
  unfold m_X6_inside
  rw [if_neg (nI_pos (by omega)), if_neg (nI_nlt h hm)]
theorem id_c (a : Int32) : m_X6_isId a = 0 ∨ m_X6_isId a = 1 ∧ ∃ i, i < 24 ∧ a = nI i := by
  rcases ins_c a (m := 23) (by decide) with e | ⟨e, i, hi, rfl⟩
  · exact Or.inl e
  · exact Or.inr ⟨e, i, by omega, rfl⟩
theorem id_1 {i : Nat} (h : i < 24) : m_X6_isId (nI i) = 1 := ins_1 (m := 23) (by decide) (by omega)
theorem pl_c (x y : Int32) : m_X6_isPosition x y = 0 ∨ m_X6_isPosition x y = 1 ∧ ∃ i j, i < 64 ∧ j < 64 ∧ x = nI i ∧ y = nI j := by
  unfold m_X6_isPosition
  rcases ins_c x (m := 63) (by decide) with e | ⟨e, i, hi, rfl⟩
  · exact Or.inl (if_pos e)
  · rw [if_neg (show ¬ m_X6_inside (nI i) 0 63 = 0 from fun q => absurd (q.symm.trans e) (by decide))]
    rcases ins_c y (m := 63) (by decide) with e | ⟨e, j, hj, rfl⟩
    · exact Or.inl (if_pos e)
    · rw [if_neg (show ¬ m_X6_inside (nI j) 0 63 = 0 from fun q => absurd (q.symm.trans e) (by decide))]
      exact Or.inr ⟨rfl, i, j, by omega, by omega, rfl, rfl⟩
theorem pl_1 {x y : Nat} (hx : x < 64) (hy : y < 64) : m_X6_isPosition (nI x) (nI y) = 1 := by
  unfold m_X6_isPosition
  rw [if_neg (by rw [show (63 : Int32) = nI 63 from rfl, ins_1 (by decide) (by omega)]; decide), if_neg (by rw [show (63 : Int32) = nI 63 from rfl, ins_1 (by decide) (by omega)]; decide)]
theorem sp_c (u : Int32) : m_X6_inside u (-9) 9 = 0 ∨ m_X6_inside u (-9) 9 = 1 ∧ sp u := by
  unfold m_X6_inside
  by_cases h1 : u < -9
  · exact Or.inl (if_pos h1)
  · rw [if_neg h1]
    by_cases h2 : 9 < u
    · exact Or.inl (if_pos h2)
    · rw [if_neg h2]
      exact Or.inr ⟨rfl, Int32.le_iff_toInt_le.mp (Int32.not_lt.mp h1), Int32.le_iff_toInt_le.mp (Int32.not_lt.mp h2)⟩
theorem m_refP {a x y e : Int32} (g : ClJ w h S S' P c) : m_X6_refusalOfPlace n w h a x y e = some (if m_X6_isId a = 0 then 1 else if m_X6_isPosition x y = 0 then 2 else if S' (5 * a.toNatClampNeg) = e then 0 else 3) := by
  unfold m_X6_refusalOfPlace
  rcases id_c a with h1 | ⟨h1, i, hi, rfl⟩
  · rw [if_pos h1, if_pos h1]
  · have h1' : ¬ m_X6_isId (nI i) = 0 := by rw [h1]; decide
    rw [if_neg h1', if_neg h1']
    by_cases h2 : m_X6_isPosition x y = 0
    · rw [if_pos h2, if_pos h2]
    · obtain ⟨F, t, h0, hR⟩ := g.1
      rw [if_neg h2, if_neg h2, g.n0, Option.bind_some, h0.q0, Option.bind_some, h0.r0 hi, Option.bind_some, hR.1 0 i (by decide) hi, nI_clamp (by omega), Nat.add_zero]
      by_cases h3 : S' (5 * i) = e
      · rw [if_pos h3, if_pos h3]
      · rw [if_neg h3, if_neg h3]
theorem m_refD {a : Int32} (g : ClJ w h S S' P c) : m_X6_refusalOfDrop n w h a = some (if m_X6_isId a = 0 then 1 else if S' (5 * a.toNatClampNeg) = 0 then 3 else 0) := by
  unfold m_X6_refusalOfDrop
  rcases id_c a with h1 | ⟨h1, i, hi, rfl⟩
  · rw [if_pos h1, if_pos h1]
  · obtain ⟨F, t, h0, hR⟩ := g.1
    have h1' : ¬ m_X6_isId (nI i) = 0 := by rw [h1]; decide
    rw [if_neg h1', if_neg h1', g.n0, Option.bind_some, h0.q0, Option.bind_some, h0.r0 hi, Option.bind_some, hR.1 0 i (by decide) hi, nI_clamp (by omega), Nat.add_zero]
    by_cases h3 : S' (5 * i) = 0
    · rw [if_pos h3, if_pos h3]
    · rw [if_neg h3, if_neg h3]
theorem m_refS {a u v : Int32} (g : ClJ w h S S' P c) : m_X6_refusalOfSpeed n w h a u v = some (if m_X6_isId a = 0 then 1 else if m_X6_inside u (-9) 9 = 0 then 2 else if m_X6_inside v (-9) 9 = 0 then 2 else if S' (5 * a.toNatClampNeg) = 0 then 3 else 0) := by
  unfold m_X6_refusalOfSpeed
  rcases id_c a with h1 | ⟨h1, i, hi, rfl⟩
  · rw [if_pos h1, if_pos h1]
  · have h1' : ¬ m_X6_isId (nI i) = 0 := by rw [h1]; decide
    rw [if_neg h1', if_neg h1']
    by_cases h2 : m_X6_inside u (-9) 9 = 0
    · rw [if_pos h2, if_pos h2]
    · rw [if_neg h2, if_neg h2]
      by_cases h3 : m_X6_inside v (-9) 9 = 0
      · rw [if_pos h3, if_pos h3]
      · obtain ⟨F, t, h0, hR⟩ := g.1
        rw [if_neg h3, if_neg h3, g.n0, Option.bind_some, h0.q0, Option.bind_some, h0.r0 hi, Option.bind_some, hR.1 0 i (by decide) hi, nI_clamp (by omega), Nat.add_zero]
        by_cases h4 : S' (5 * i) = 0
        · rw [if_pos h4, if_pos h4]
        · rw [if_neg h4, if_neg h4]
theorem throw0 : m_X6_throwIf n w 0 = some () := by
  rw [m_X6_throwIf, if_neg (by decide), if_neg (by decide), if_neg (by decide)]
end CJ
