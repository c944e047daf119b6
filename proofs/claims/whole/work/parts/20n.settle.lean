/-! ONE FOREST TO EACH ROW; how many squares a change touches; the class settles -/
theorem node_lt {cs : List Nat} (hc : C12 cs) {q : Nat} (h : isNode cs q) : q < 40000 := by
  rcases h with h | ⟨e, c, d, h1, h2, h3, h4, h5, rfl⟩
  · omega
  · unfold sq
    have : c / 4 ^ e * 4 ^ e ≤ c := Nat.div_mul_le_self _ _
    have := hc c h3
    omega
noncomputable def ndL (cs : List Nat) : List Nat := (List.range 40000).filter fun q => @decide (isNode cs q) (Classical.propDecidable _)
theorem ndL_of {cs : List Nat} (hc : C12 cs) : NodesOf cs (ndL cs) := by
  refine ⟨List.Pairwise.filter _ List.pairwise_lt_range, fun q => ?_⟩
  unfold ndL
  rw [List.mem_filter, List.mem_range, @decide_eq_true_eq (isNode cs q) (Classical.propDecidable _)]
  exact ⟨fun h => h.2, fun h => ⟨node_lt hc h, h⟩⟩
theorem ndL_eq {cs qs : List Nat} (hc : C12 cs) (h : NodesOf cs qs) : qs = ndL cs := asc_ext h.1 (ndL_of hc).1 fun q => (h.2 q).trans ((ndL_of hc).2 q).symm
theorem ndL_mem {cs ds : List Nat} (hc : C12 cs) (hd : C12 ds) (h : ∀ c, c ∈ cs ↔ c ∈ ds) : ndL cs = ndL ds := asc_ext (ndL_of hc).1 (ndL_of hd).1 fun q => by
  rw [(ndL_of hc).2, (ndL_of hd).2]
  exact ⟨node_mono fun c hc => (h c).mp hc, node_mono fun c hc => (h c).mpr hc⟩
/-- the codes on a level, in the order of the ids; the level's nodes -/
def onS (S : Nat → Int32) (l : Nat) : List Nat := (idsS S 24).filter fun i => decide (l ≤ hgt i)
def cdS (S : Nat → Int32) (l : Nat) : List Nat := (onS S l).map (codeS S)
noncomputable def nds (S : Nat → Int32) (l : Nat) : List Nat := ndL (cdS S l)
theorem onS_mem {S : Nat → Int32} {l i : Nat} : i ∈ onS S l ↔ i < 24 ∧ S (5 * i) ≠ 0 ∧ l ≤ hgt i := by
  unfold onS
  rw [List.mem_filter, idsS_mem, decide_eq_true_eq, and_assoc]
theorem cdS_12 {S : Nat → Int32} (hw : WF S) {l : Nat} : C12 (cdS S l) := by
  intro c hc
  obtain ⟨i, hi, rfl⟩ := List.mem_map.mp hc
  obtain ⟨x, y, -, -, -, -, -, h⟩ := codeS_at (hw.1 i (onS_mem.mp hi).1)
  exact h
theorem cs_perm {S : Nat → Int32} {es : List Nat} (h : EsOf S 24 es) {l : Nat} : List.Perm (CsOf es l) (cdS S l) := by
  unfold CsOf cdS onS
  refine ((h.2.filter _).map _).trans ?_
  rw [List.filter_map, List.map_map]
  have e1 : (idsS S 24).filter ((fun e => decide (l ≤ hgt (e % 32))) ∘ ent S) = (idsS S 24).filter fun i => decide (l ≤ hgt i) := by
    refine List.filter_congr fun i hi => ?_
    have := (idsS_mem.mp hi).1
    show decide (l ≤ hgt (ent S i % 32)) = _
    rw [show ent S i % 32 = i by unfold ent; omega]
  rw [e1]
  have e2 : ((idsS S 24).filter fun i => decide (l ≤ hgt i)).map ((fun x => x / 32) ∘ ent S) = ((idsS S 24).filter fun i => decide (l ≤ hgt i)).map (codeS S) := by
    refine List.map_congr_left fun i hi => ?_
    have := (idsS_mem.mp (List.mem_filter.mp hi).1).1
    show ent S i / 32 = _
    unfold ent
    omega
  rw [e2]
theorem FoC.lev {w : Wd} {a : Nat} {S : Nat → Int32} (h : FoC w a S) (hw : WF S) {l : Nat} (hl : l < 5) : ∃ cs, LvC w (a + 3 + 3 * l) cs (nds S l) ∧ List.Perm cs (cdS S l) ∧ Srt cs ∧ C12 cs ∧ NodesOf cs (nds S l) := by
  obtain ⟨h1, es, h2, h3, h4⟩ := h
  obtain ⟨qs, k1, k2⟩ := h4 l hl
  have hc : C12 (CsOf es l) := CsOf_12 fun q hq => h3.lt hw (Nat.le_refl _) hq
  have e : qs = nds S l := (ndL_eq hc k2).trans (ndL_mem hc (cdS_12 hw) fun c => (cs_perm h3).mem_iff)
  rw [e] at k1 k2
  exact ⟨_, k1, cs_perm h3, CsOf_srt h3.1, hc, k2⟩
noncomputable def touK (S S' : Nat → Int32) : Nat → Nat
  | 0 => 0
  | k + 1 => touK S S' k + dif (nds S k) (nds S' k)
theorem m_fdiff {n : Nat} (hn : 80 ≤ n) {w : Wd} {a b : Nat} {S S' : Nat → Int32} (h : FoC w a S) (g : FoC w b S') (hw : WF S) (hw' : WF S') : m_X0_differences n w a b = some (nI (touK S S' 5)) := by
  unfold m_X0_differences
  obtain ⟨v, e, rfl⟩ := lp (σ := Unit) (R := Int32) (fun t k _ => m_X0_differences_p4 n t w a b (nI (touK S S' k)) (nI k)) (fun _ _ => True) (fun v => v = nI (touK S S' 5)) 5 (by
    rintro t k ⟨⟩ hk -
    left
    obtain ⟨cs, a1, a2, a3, a4, a5⟩ := h.lev hw hk
    obtain ⟨ds, b1, b2, b3, b4, b5⟩ := g.lev hw' hk
    refine ⟨(), ?_, trivial⟩
    rw [m_X0_differences_p4, if_neg (show ¬ (5 : Int32) ≤ nI k from nI_ge hk (by decide)), h.1.lv hk, g.1.lv hk, a1.c, Option.bind_some, m_ldiff (by omega) a1 b1 a5.1 b5.1 (fun q hq => by have := node_lt a4 ((a5.2 q).mp hq); omega) (fun q hq => by have := node_lt b4 ((b5.2 q).mp hq); omega), Option.bind_some, nI_add, nI_1]
    rfl) (by
    rintro t ⟨⟩ -
    exact ⟨_, by rw [m_X0_differences_p4, if_pos (by decide)], rfl⟩) 5 0 n () rfl (by omega) trivial
  exact e
def ObC (w : Wd) (h fo sp : Nat) : Prop := w h = some (.inr (5, [.ref (h + 1), .ref (h + 10), .ref (h + 48), .ref fo, .ref sp]))
theorem m_settle {n : Nat} (hn : 80 ≤ n) {w : Wd} {h fo sp : Nat} {S S' : Nat → Int32} (ho : ObC w h fo sp) (hf : FoC w fo S) (hx : FoX w sp) (hs : StW w (h + 1) S') (hw : WF S) (hw' : WF S') (h1 : h + 9 < sp) (h2 : fo + 17 < sp ∨ sp + 17 < fo) (h3 : h + 9 < fo) :
    ∃ w', m_X6_settle n w h = some (nI (touK S S' 5), w') ∧ ObC w' h sp fo ∧ FoC w' sp S' ∧ FoC w' fo S ∧ ∀ q, q ≠ h → (q < sp ∨ sp + 17 < q) → w' q = w q := by
  obtain ⟨w1, e1, g1, q1⟩ := m_plant hn hx hs hw' (by omega)
  have g2 : FoC w1 fo S := hf.frame fun q a b => q1 q (by omega)
  have o1 : ObC w1 h fo sp := by unfold ObC; rw [q1 _ (by omega)]; exact ho
  generalize hw2 : wup (wup w1 h (.inr (5, [.ref (h + 1), .ref (h + 10), .ref (h + 48), .ref sp, .ref sp]))) h (.inr (5, [.ref (h + 1), .ref (h + 10), .ref (h + 48), .ref sp, .ref fo])) = w2
  have o2 : ∀ q, q ≠ h → w2 q = w1 q := fun q hq => by rw [← hw2, wup_ne hq, wup_ne hq]
  refine ⟨w2, ?_, by unfold ObC; rw [← hw2, wup_self], g1.frame fun q a b => o2 q (by omega), g2.frame fun q a b => o2 q (by omega), fun q hq hq2 => (o2 q hq).trans (q1 q hq2)⟩
  rw [m_X6_settle, gfR_at ho rfl, Option.bind_some, gfR_at ho rfl, Option.bind_some, chk_at hx.1.1, Option.bind_some, e1, Option.bind_some, gfR_at o1 rfl, Option.bind_some, gfR_at o1 rfl, Option.bind_some, chk_at g2.1.1, Option.bind_some, m_fdiff hn g2 g1 hw hw', Option.bind_some, Option.bind_some, Option.bind_some, pfV_at o1 (Nat.le_of_ble_eq_true rfl), Option.bind_some, pfV_at wup_self (Nat.le_of_ble_eq_true rfl), Option.bind_some]
  simp only [List.set_cons_succ, List.set_cons_zero]
  rw [hw2]
