/-! SEARCHES -/
def stpN (l : List Nat) (q c : Nat) : Nat := if kidN l q (c / 4 ^ (sqE q - 1) % 4) < 100000 ∧ hB (kidN l q (c / 4 ^ (sqE q - 1) % 4)) c = true then kidN l q (c / 4 ^ (sqE q - 1) % 4) else 200000
theorem stpN_perm {l m : List Nat} (h : l.Perm m) {q c : Nat} : stpN l q c = stpN m q c := by
  unfold stpN
  rw [kidN_perm h]
theorem stp_c {cs : List Nat} (hc : C12 cs) {q c : Nat} (hq : isNode cs q) : stpN cs q c = 200000 ∨ stpN cs q c = kidN cs q (c / 4 ^ (sqE q - 1) % 4) ∧ stpN cs q c < 40000 ∧ isNode cs (stpN cs q c) ∧ sqE (stpN cs q c) < sqE q ∧ hB (stpN cs q c) c = true := by
  by_cases g : kidN cs q (c / 4 ^ (sqE q - 1) % 4) < 100000 ∧ hB (kidN cs q (c / 4 ^ (sqE q - 1) % 4)) c = true
  · right
    have e : stpN cs q c = kidN cs q (c / 4 ^ (sqE q - 1) % 4) := if_pos g
    rcases kid_c hc (d := c / 4 ^ (sqE q - 1) % 4) hq with ⟨b1, b2⟩ | ⟨b1, b2, b3, b4⟩ | ⟨b1, b2, b3, b4⟩
    · omega
    · omega
    · obtain ⟨e0, e1, e2, e3, -⟩ := kid_node hc hq (Nat.mod_lt _ (by decide)) b1 b2
      have := sqE_le q
      rw [e]
      exact ⟨rfl, b3, b4, by rw [e3, sq_e (by omega)]; exact e2, g.2⟩
  · left
    exact if_neg g
def dsc (l : List Nat) (c : Nat) : Nat → Nat → Nat → Nat × Nat
  | 0, q, s => (q, s)
  | f + 1, q, s => if stpN l q c = 200000 then (q, s) else dsc l c f (stpN l q c) (s + 1)
theorem dsc_perm {l m : List Nat} (h : l.Perm m) {c : Nat} : ∀ {f q s : Nat}, dsc l c f q s = dsc m c f q s
  | 0, _, _ => rfl
  | f + 1, q, s => by
    unfold dsc
    rw [stpN_perm h, dsc_perm h]
theorem dsc_node {cs : List Nat} (hc : C12 cs) {c : Nat} : ∀ {f q s : Nat}, isNode cs q → isNode cs (dsc cs c f q s).1 ∧ (dsc cs c f q s).2 ≤ s + f
  | 0, q, s, h => ⟨h, Nat.le_refl _⟩
  | f + 1, q, s, h => by
    unfold dsc
    by_cases g : stpN cs q c = 200000
    · rw [if_pos g]
      exact ⟨h, by omega⟩
    · rw [if_neg g]
      have h1 := ((stp_c hc (c := c) h).resolve_left g).2.2.1
      have := dsc_node hc (c := c) (f := f) (s := s + 1) h1
      exact ⟨this.1, by omega⟩
def lvs (S : Nat → Int32) (c : Nat) : Nat → Nat → Nat → Nat × Nat
  | 0, q, s => dsc (cdS S 0) c 5 q s
  | l + 1, q, s => lvs S c l (dsc (cdS S (l + 1)) c 5 q s).1 ((dsc (cdS S (l + 1)) c 5 q s).2 + 1)
theorem cdS_sub {S : Nat → Int32} {l c : Nat} (h : c ∈ cdS S (l + 1)) : c ∈ cdS S l := by
  obtain ⟨i, hi, rfl⟩ := List.mem_map.mp h
  obtain ⟨a, b, d⟩ := onS_mem.mp hi
  exact cdS_mem (onS_mem.mpr ⟨a, b, by omega⟩)
theorem lvs_node {S : Nat → Int32} (hw : WF S) {c : Nat} : ∀ {l q s : Nat}, isNode (cdS S l) q → isNode (cdS S 0) (lvs S c l q s).1 ∧ (lvs S c l q s).2 ≤ s + 6 * (l + 1)
  | 0, q, s, h => by
    have := dsc_node (cdS_12 hw) (c := c) (f := 5) (s := s) h
    exact ⟨this.1, Nat.le_trans this.2 (by omega)⟩
  | l + 1, q, s, h => by
    have h1 := dsc_node (cdS_12 hw) (c := c) (f := 5) (s := s) h
    have := lvs_node hw (c := c) (l := l) (s := (dsc (cdS S (l + 1)) c 5 q s).2 + 1) (node_mono (fun c hc => cdS_sub hc) h1.1)
    exact ⟨this.1, by
      have h2 := this.2
      show (lvs S c l _ _).2 ≤ _
      omega⟩
def glN (S : Nat → Int32) : Nat → Nat
  | 0 => 0
  | k + 1 => if 0 < (cdS S k).length then k else glN S k
theorem glN_lt (S : Nat → Int32) : ∀ k, k ≤ 5 → glN S k ≤ 4
  | 0, _ => Nat.zero_le _
  | k + 1, h => by
    have := glN_lt S k (by omega)
    unfold glN
    split <;> omega
def fnd (S : Nat → Int32) (c : Nat) (sk : Bool) : Nat × Nat := lvs S c (if sk then glN S 5 else 0) 0 0
theorem fnd_ok {S : Nat → Int32} (hw : WF S) (c : Nat) (sk : Bool) : isNode (cdS S 0) (fnd S c sk).1 ∧ (fnd S c sk).2 ≤ 30 := by
  have h := lvs_node hw (c := c) (l := if sk then glN S 5 else 0) (q := 0) (s := 0) (Or.inl rfl)
  have := glN_lt S 5 (Nat.le_refl _)
  refine ⟨h.1, Nat.le_trans h.2 ?_⟩
  split <;> omega
section SE
variable {n a : Nat} {w : Wd} {cs qs : List Nat}
theorem m_stepT {ix c : Nat} (hn : 60 ≤ n) (h : LvC w a cs qs) (hs : Srt cs) (hc : C12 cs) (hN : NodesOf cs qs) (hi : ix < qs.length) (hcc : c < 4096) : m_X1_stepTowards n w a (nI ix) (nI c) = some (if stpN cs (qs.getD ix 0) c = 200000 then -1 else nI (ixN qs (stpN cs (qs.getD ix 0) c))) := by
  have h24 := h.2.2.2.2.1
  have hq := hN.at hi
  obtain ⟨p1, p2, p3, p4⟩ := node_m hc hq
  rw [m_X1_stepTowards, h.g2, Option.bind_some, h.sqr hi, Option.bind_some, h.c, Option.bind_some, m_quad (by omega) p2 p3 (by omega), m_child hn h hs hc hN hi (Nat.mod_lt _ (by decide)), Option.bind_some]
  rcases tell_c hc hN h24 (d := c / 4 ^ (sqE (qs.getD ix 0) - 1) % 4) hq with ⟨a1, a2⟩ | ⟨x, a1, a2, a3, a4, a5⟩ | ⟨a1, a2, a3, a4, a5⟩
  · have e : stpN cs (qs.getD ix 0) c = 200000 := by
      unfold stpN
      rw [if_neg (by omega)]
    rw [a2, if_pos rfl, if_pos e]
  · have e : stpN cs (qs.getD ix 0) c = 200000 := by
      unfold stpN
      rw [if_neg (by omega)]
    rw [a5, if_neg (nI_m1 (by omega)), if_neg (show ¬ nI x < 1000 from nI_nlt a1 (by omega)), if_pos e]
  · have hx : ∀ m, m = kidN cs (qs.getD ix 0) (c / 4 ^ (sqE (qs.getD ix 0) - 1) % 4) → m % 8 ≤ 6 := fun m em => by
      rw [em]
      exact (node_m hc a2).2.1
    rw [a3, if_neg (nI_m1 (by omega)), if_pos (show nI (ixN qs (kidN cs (qs.getD ix 0) (c / 4 ^ (sqE (qs.getD ix 0) - 1) % 4))) < 1000 from nI_lt (b := 1000) (by omega) (by decide)), Option.bind_some, h.sqr a4, Option.bind_some, a5, m_holds (by omega) (hx _ rfl) (by omega)]
    by_cases g : hB (kidN cs (qs.getD ix 0) (c / 4 ^ (sqE (qs.getD ix 0) - 1) % 4)) c = true
    · have e : stpN cs (qs.getD ix 0) c = kidN cs (qs.getD ix 0) (c / 4 ^ (sqE (qs.getD ix 0) - 1) % 4) := by
        unfold stpN
        rw [if_pos ⟨by omega, g⟩]
      rw [e, if_pos g, if_neg ne1.1, if_neg (by omega)]
    · have e : stpN cs (qs.getD ix 0) c = 200000 := by
        unfold stpN
        rw [if_neg (fun z => g z.2)]
      rw [if_neg g, if_pos rfl, if_pos e]
theorem m_indexOf {q : Nat} (hn : 60 ≤ n) (h : LvC w a cs qs) (hc : C12 cs) (hN : NodesOf cs qs) (hq : q ∈ qs) : m_X1_indexOf n w a (nI q) = some (nI (ixN qs q)) := by
  have h24 := h.2.2.2.2.1
  have hp := h.2.2.2.2.2.1
  obtain ⟨b1, b2⟩ := ixN_mem hN.1 hq
  have lt : ∀ x ∈ qs, x < 2 ^ 31 := fun x hx => by
    have := (node_m hc ((hN.2 x).mp hx)).1
    omega
  have es : nI qs.length - 1 = nI (qs.length - 1) := pk_sub (b := 1) hp
  unfold m_X1_indexOf
  obtain ⟨v, e, rfl⟩ := lp (σ := Unit) (R := Int32) (fun t k _ => m_X1_indexOf_p2 n t w a (nI q) (nI k)) (fun _ _ => True) (fun v => v = nI (ixN qs q)) (ixN qs q) (by
    rintro t k ⟨⟩ hk -
    left
    refine ⟨(), ?_, trivial⟩
    have := asc_get hN.1 hk b1
    rw [m_X1_indexOf_p2, h.i3, Option.bind_some, es, if_neg (nI_ge (show k < qs.length - 1 by omega) (by omega)), h.g2, Option.bind_some, h.sqr (by omega), Option.bind_some, if_neg (nI_ge (show qs.getD k 0 < q by omega) (lt _ hq)), nI_1]) (by
    rintro t ⟨⟩ -
    refine ⟨_, ?_, rfl⟩
    rw [m_X1_indexOf_p2, h.i3, Option.bind_some, es]
    by_cases g : qs.length - 1 ≤ ixN qs q
    · rw [if_pos (nI_le g (by omega))]
    · rw [if_neg (nI_ge (show ixN qs q < qs.length - 1 by omega) (by omega)), h.g2, Option.bind_some, h.sqr b1, Option.bind_some, b2, if_pos (Int32.le_refl _)]) (ixN qs q) 0 n () (by omega) (by omega) trivial
  exact e
theorem m_desc {q c s : Nat} (hn : 60 ≤ n) (h : LvC w a cs qs) (hs : Srt cs) (hc : C12 cs) (hN : NodesOf cs qs) (hcc : c < 4096) {k27 : Wd → Nat → Int32 → Int32 → Int32 → Int32 → Option Int32} {a0 : Nat} {lev : Int32} :
    ∀ (f : Nat), f ≤ 5 → ∀ (q s t : Nat), isNode cs q → f < t → m_X0_find_p55 n k27 t w a0 (nI c) (nI s) (nI (ixN qs q)) lev a (if stpN cs q c = 200000 then -1 else nI (ixN qs (stpN cs q c))) (nI (5 - f)) = m_X0_find_p91 n k27 w a0 (nI c) (nI (dsc cs c f q s).2) (nI (ixN qs (dsc cs c f q s).1)) lev a := by
  have h24 := h.2.2.2.2.1
  intro f
  induction f with
  | zero =>
    intro _ q s t hq ht
    obtain ⟨t, rfl⟩ : ∃ u, t = u + 1 := ⟨t - 1, by omega⟩
    rw [m_X0_find_p55, if_pos (by decide)]
    rfl
  | succ f ih =>
    intro hf q s t hq ht
    obtain ⟨t, rfl⟩ : ∃ u, t = u + 1 := ⟨t - 1, by omega⟩
    rw [m_X0_find_p55, if_neg (show ¬ (5 : Int32) ≤ nI (5 - (f + 1)) from nI_ge (b := 5) (by omega) (by decide))]
    unfold dsc
    by_cases g : stpN cs q c = 200000
    · rw [if_pos g, if_pos rfl, if_pos g]
    · obtain ⟨-, -, h1, -, -⟩ := (stp_c hc (c := c) hq).resolve_left g
      obtain ⟨b1, b2⟩ := ixN_mem hN.1 ((hN.2 _).mpr h1)
      have := ih (by omega) (stpN cs q c) (s + 1) t h1 (by omega)
      rw [if_neg g, if_neg (nI_m1 (by omega)), h.c, Option.bind_some, m_stepT hn h hs hc hN b1 hcc, Option.bind_some, b2, nI_1, nI_1, if_neg g, show 5 - (f + 1) + 1 = 5 - f by omega]
      exact this
end SE
section SF
variable {n b : Nat} {w : Wd} {S : Nat → Int32}
theorem m_lvs {fo c : Nat} (hn : 60 ≤ n) (fc : FoC w fo S) (hw : WF S) (hcc : c < 4096) : ∀ (l : Nat), l < 5 → ∀ (q s t : Nat), isNode (cdS S l) q → l + 1 < t → m_X0_find_p27 n t w fo (nI c) (nI s) (nI (ixN (nds S l) q)) (nI l) = some (nI (lvs S c l q s).2 * 32 + nI (ixN (nds S 0) (lvs S c l q s).1)) := by
  intro l
  induction l with
  | zero =>
    intro _ q s t hq ht
    obtain ⟨t, rfl⟩ : ∃ u, t = u + 1 := ⟨t - 1, by omega⟩
    obtain ⟨t, rfl⟩ : ∃ u, t = u + 1 := ⟨t - 1, by omega⟩
    obtain ⟨cs, a1, a2, a3, a4, a5⟩ := fc.lev hw (show 0 < 5 by decide)
    have hq' : isNode cs q := node_mono (fun c hc => a2.mem_iff.mpr hc) hq
    obtain ⟨b1, b2⟩ := ixN_mem a5.1 ((a5.2 _).mpr hq')
    rw [m_X0_find_p27, if_neg (nI_pos (by decide)), fc.1.lv (show 0 < 5 by decide), a1.c, Option.bind_some, m_stepT hn a1 a3 a4 a5 b1 hcc, Option.bind_some, b2]
    have := m_desc (s := 0) (q := 0) hn a1 a3 a4 a5 hcc (k27 := fun w b0 b4 b5 b6 b7 => m_X0_find_p27 n (t + 1) w b0 b4 b5 b6 b7) (a0 := fo) (lev := nI 0) 5 (Nat.le_refl _) q s n hq' (by omega)
    refine this.trans ?_
    rw [m_X0_find_p91, if_pos (show nI 0 ≤ 0 from Int32.le_refl _), m_X0_find_p27, if_pos (by decide), m_X0_find_p127, dsc_perm a2]
    rfl
  | succ l ih =>
    intro hl q s t hq ht
    obtain ⟨t, rfl⟩ : ∃ u, t = u + 1 := ⟨t - 1, by omega⟩
    obtain ⟨cs, a1, a2, a3, a4, a5⟩ := fc.lev hw hl
    obtain ⟨ds, d1, d2, d3, d4, d5⟩ := fc.lev hw (show l < 5 by omega)
    have h24 := a1.2.2.2.2.1
    have hq' : isNode cs q := node_mono (fun c hc => a2.mem_iff.mpr hc) hq
    obtain ⟨b1, b2⟩ := ixN_mem a5.1 ((a5.2 _).mpr hq')
    rw [m_X0_find_p27, if_neg (nI_pos (by omega)), fc.1.lv hl, a1.c, Option.bind_some, m_stepT hn a1 a3 a4 a5 b1 hcc, Option.bind_some, b2]
    have := m_desc (s := 0) (q := 0) hn a1 a3 a4 a5 hcc (k27 := fun w b0 b4 b5 b6 b7 => m_X0_find_p27 n t w b0 b4 b5 b6 b7) (a0 := fo) (lev := nI (l + 1)) 5 (Nat.le_refl _) q s n hq' (by omega)
    refine this.trans ?_
    rw [dsc_perm a2]
    have n1 : isNode (cdS S (l + 1)) (dsc (cdS S (l + 1)) c 5 q s).1 := (dsc_node (cdS_12 hw) hq).1
    have n2 : isNode (cdS S l) (dsc (cdS S (l + 1)) c 5 q s).1 := node_mono (fun c hc => cdS_sub hc) n1
    obtain ⟨f1, f2⟩ := ixN_mem a5.1 (((nds_of hw (l + 1)).2 _).mpr n1)
    rw [m_X0_find_p91, if_neg (nI_nle (Nat.succ_pos l) (by omega)), show nI (l + 1) - 1 = nI l from nI_pred l, fc.1.lv (by omega), a1.g2, Option.bind_some, a1.sqr f1, Option.bind_some, f2, d1.c, Option.bind_some, m_indexOf hn d1 d4 d5 (((nds_of hw l).2 _).mpr n2), Option.bind_some, nI_1, pk_m1]
    exact ih (by omega) _ _ t n2 (by omega)
theorem m_great {fo : Nat} (hn : 60 ≤ n) (fc : FoC w fo S) (hw : WF S) : m_X0_greatestLevel n w fo = some (nI (glN S 5)) := by
  unfold m_X0_greatestLevel
  obtain ⟨v, e, rfl⟩ := lp (σ := Unit) (R := Int32) (fun t k _ => m_X0_greatestLevel_p4 n t w fo (nI (glN S k)) (nI k)) (fun _ _ => True) (fun v => v = nI (glN S 5)) 5 (by
    rintro t k ⟨⟩ hk -
    left
    refine ⟨(), ?_, trivial⟩
    obtain ⟨cs, a1, a2, a3, a4, a5⟩ := fc.lev hw hk
    have h24 := a1.2.2.2.1
    rw [m_X0_greatestLevel_p4, if_neg (show ¬ (5 : Int32) ≤ nI k from nI_ge hk (by decide)), fc.1.lv hk, a1.i1, Option.bind_some]
    show _ = m_X0_greatestLevel_p4 n t w fo (nI (if 0 < (cdS S k).length then k else glN S k)) (nI (k + 1))
    by_cases g : 0 < (cdS S k).length
    · rw [if_neg (nI_nle (show 0 < cs.length by rw [a2.length_eq]; exact g) (by omega)), if_pos g, nI_1]
    · have : cs.length = 0 := by rw [a2.length_eq]; omega
      rw [this, if_pos (show nI 0 ≤ 0 from Int32.le_refl _), if_neg g, nI_1]) (by
    rintro t ⟨⟩ -
    exact ⟨_, by rw [m_X0_greatestLevel_p4, if_pos (by decide)], rfl⟩) 5 0 n () rfl (by omega) trivial
  exact e
def bI (sk : Bool) : Int32 := if sk then 1 else 0
theorem ixN_0 (hw : WF S) (l : Nat) : ixN (nds S l) 0 = 0 := by
  obtain ⟨b1, b2⟩ := ixN_mem (nds_of hw l).1 (((nds_of hw l).2 0).mpr (Or.inl rfl))
  rcases Nat.eq_zero_or_pos (ixN (nds S l) 0) with e | e
  · exact e
  · have := asc_get (nds_of hw l).1 e b1
    omega
theorem m_findF {fo x y : Nat} {sk : Bool} (hn : 60 ≤ n) (fc : FoC w fo S) (hw : WF S) (hx : x < 64) (hy : y < 64) : m_X0_find n w fo (nI x) (nI y) (bI sk) = some (nI ((fnd S (codeN x y) sk).2 * 32 + ixN (nds S 0) (fnd S (codeN x y) sk).1)) := by
  obtain ⟨c1, c2⟩ := code6_all x hx y hy
  have fin : ∀ l, l < 5 → m_X0_find_p27 n n w fo (m_X3_code (nI x) (nI y)) 0 0 (nI l) = some (nI ((lvs S (codeN x y) l 0 0).2 * 32 + ixN (nds S 0) (lvs S (codeN x y) l 0 0).1)) := fun l hl => by
    have := m_lvs hn fc hw c2 l hl 0 0 n (Or.inl rfl) (by omega)
    rw [ixN_0 hw] at this
    rw [c1]
    refine this.trans ?_
    rw [show (32 : Int32) = nI 32 from rfl, pk_mul, nI_add]
  unfold fnd
  cases sk with
  | false =>
    rw [m_X0_find, if_pos (show bI false = 0 from rfl), if_neg (by decide)]
    exact fin 0 (by decide)
  | true =>
    have := glN_lt S 5 (Nat.le_refl _)
    rw [m_X0_find, if_neg (show ¬ bI true = 0 by decide), if_pos rfl, chk_at fc.1.1, Option.bind_some, m_great hn fc hw, Option.bind_some]
    exact fin _ (by omega)
/-! the reference's search -/
theorem k_stop {c l q s T : Nat} {A : Rw} {J : Nat → Int64} {I : Nat → Int32} {v : Wd} (h : MoC v b I J A) (h15 : I 15 = nI s) (hl : l < 5) : ∃ v' I', ((gfI 6 15 v b).bind fun x3 => if nI l ≤ 0 then (pfV 6 15 v b (.int (x3 + 0))).bind fun w4 => m_X7_finds_p45 n T w4 b (nI c) (nI l + (-1)) (nI q) else (pfV 6 15 v b (.int (x3 + 1))).bind fun w5 => m_X7_finds_p45 n T w5 b (nI c) (nI l + (-1)) (nI q)) = m_X7_finds_p45 n T v' b (nI c) (nI l + (-1)) (nI q) ∧ MoC v' b I' J A ∧ Iq I I' ∧ I' 15 = nI (s + if l = 0 then 0 else 1) ∧ Fr v v' b := by
  rw [h.i15, Option.bind_some, h15]
  by_cases g : l = 0
  · subst g
    obtain ⟨v1, e1, h1, q1⟩ := h.p15 (nI s + 0)
    refine ⟨v1, _, by rw [if_pos (show nI 0 ≤ 0 from Int32.le_refl _), e1, Option.bind_some], h1, Iq.set (by decide) (by decide), ?_, q1⟩
    rw [setI_self, Int32.add_zero]
    rfl
  · obtain ⟨v1, e1, h1, q1⟩ := h.p15 (nI s + 1)
    refine ⟨v1, _, by rw [if_neg (nI_nle (show 0 < l by omega) (by omega)), e1, Option.bind_some], h1, Iq.set (by decide) (by decide), ?_, q1⟩
    rw [setI_self, if_neg g, nI_1]
theorem k_down1 {c l q s T : Nat} {A : Rw} {J : Nat → Int64} {I : Nat → Int32} {v : Wd} (hn : 60 ≤ n) (h : MoC v b I J A) (h15 : I 15 = nI s) (hr : Row A S) (hw : WF S) (hcc : c < 4096) (hl : l < 5) (hq : isNode (cdS S l) q) :
    (stpN (cdS S l) q c = 200000 → ∃ v' I', m_X7_finds_p45 n (T + 1) v b (nI c) (nI l) (nI q) = m_X7_finds_p45 n T v' b (nI c) (nI l + (-1)) (nI q) ∧ MoC v' b I' J A ∧ Iq I I' ∧ I' 15 = nI (s + if l = 0 then 0 else 1) ∧ Fr v v' b) ∧
    (stpN (cdS S l) q c ≠ 200000 → ∃ v' I', m_X7_finds_p45 n (T + 1) v b (nI c) (nI l) (nI q) = m_X7_finds_p45 n T v' b (nI c) (nI l) (nI (stpN (cdS S l) q c)) ∧ MoC v' b I' J A ∧ Iq I I' ∧ I' 15 = nI (s + 1) ∧ Fr v v' b) := by
  have hc := cdS_12 hw (l := l)
  obtain ⟨p1, p2, p3, p4⟩ := node_m hc hq
  have eq : (nI c >>> (((2 * m_X7_span (nI q)) - 2) &&& 31 : Int32)) &&& 3 = nI (c / 4 ^ (sqE q - 1) % 4) := m_quad (by omega) p2 p3 (by omega)
  obtain ⟨v1, I1, e1, h1, i1, j15, q1⟩ := k_child (n := n) (d := c / 4 ^ (sqE q - 1) % 4) hn h hr hw hl hq (Nat.mod_lt _ (by decide))
  rw [h15] at j15
  rw [m_X7_finds_p45, if_neg (nI_pos (by omega)), h.c, Option.bind_some, eq, e1, Option.bind_some]
  obtain ⟨v2, I2, e2, h2, i2, j2, q2⟩ := k_stop (n := n) (c := c) (q := q) (T := T) h1 j15 hl
  have Q2 : Fr v v2 b := fun z hz => (q2 z hz).trans (q1 z hz)
  rcases kid_c hc (d := c / 4 ^ (sqE q - 1) % 4) hq with ⟨b1, b2⟩ | ⟨b1, b2, b3, b4⟩ | ⟨b1, b2, b3, b4⟩
  · have e : stpN (cdS S l) q c = 200000 := by
      unfold stpN
      rw [if_neg (by omega)]
    refine ⟨fun _ => ⟨v2, I2, ?_, h2, i1.tr i2, j2, Q2⟩, fun z => absurd e z⟩
    rw [b2, if_pos (show kI 200000 = -1 from rfl), e2]
  · have e : stpN (cdS S l) q c = 200000 := by
      unfold stpN
      rw [if_neg (by omega)]
    have ek : kI (kidN (cdS S l) q (c / 4 ^ (sqE q - 1) % 4)) = nI (kidN (cdS S l) q (c / 4 ^ (sqE q - 1) % 4)) := if_neg (by omega)
    refine ⟨fun _ => ⟨v2, I2, ?_, h2, i1.tr i2, j2, Q2⟩, fun z => absurd e z⟩
    rw [ek, if_neg (nI_m1 (by omega)), if_pos (show 100000 ≤ nI (kidN (cdS S l) q (c / 4 ^ (sqE q - 1) % 4)) from nI_le (a := 100000) (by omega) (by omega)), e2]
  · have ek : kI (kidN (cdS S l) q (c / 4 ^ (sqE q - 1) % 4)) = nI (kidN (cdS S l) q (c / 4 ^ (sqE q - 1) % 4)) := if_neg (by omega)
    rw [ek, if_neg (nI_m1 (by omega)), if_neg (show ¬ 100000 ≤ nI (kidN (cdS S l) q (c / 4 ^ (sqE q - 1) % 4)) from nI_ge (b := 100000) (by omega) (by decide)), k_holds (by omega) (node_m hc b4).2.1 (by omega)]
    by_cases g : hB (kidN (cdS S l) q (c / 4 ^ (sqE q - 1) % 4)) c = true
    · have e : stpN (cdS S l) q c = kidN (cdS S l) q (c / 4 ^ (sqE q - 1) % 4) := by
        unfold stpN
        rw [if_pos ⟨by omega, g⟩]
      refine ⟨fun z => by omega, fun _ => ?_⟩
      obtain ⟨v3, e3, h3, q3⟩ := h1.p15 (nI s + 1)
      refine ⟨v3, _, ?_, h3, i1.tr (Iq.set (by decide) (by decide)), by rw [setI_self, nI_1], fun z hz => (q3 z hz).trans (q1 z hz)⟩
      rw [if_pos g, if_neg ne1.1, h1.i15, Option.bind_some, j15, e3, Option.bind_some, e]
    · have e : stpN (cdS S l) q c = 200000 := by
        unfold stpN
        rw [if_neg (fun z => g z.2)]
      refine ⟨fun _ => ⟨v2, I2, ?_, h2, i1.tr i2, j2, Q2⟩, fun z => absurd e z⟩
      rw [if_neg g, if_pos rfl, e2]
theorem k_down {c l : Nat} {A : Rw} {J : Nat → Int64} (hn : 60 ≤ n) (hr : Row A S) (hw : WF S) (hcc : c < 4096) (hl : l < 5) : ∀ (f q s u : Nat) (v : Wd) (I : Nat → Int32), MoC v b I J A → I 15 = nI s → isNode (cdS S l) q → sqE q ≤ f + 1 →
    ∃ v' I' u', m_X7_finds_p45 n (f + 1 + u) v b (nI c) (nI l) (nI q) = m_X7_finds_p45 n u' v' b (nI c) (nI l + (-1)) (nI (dsc (cdS S l) c f q s).1) ∧ u ≤ u' ∧ MoC v' b I' J A ∧ Iq I I' ∧ I' 15 = nI ((dsc (cdS S l) c f q s).2 + if l = 0 then 0 else 1) ∧ Fr v v' b := by
  have hc := cdS_12 hw (l := l)
  intro f
  induction f with
  | zero =>
    intro q s u v I h h15 hq he
    obtain ⟨d1, -⟩ := k_down1 (n := n) (T := u) hn h h15 hr hw hcc hl hq
    have e : stpN (cdS S l) q c = 200000 := by
      rcases stp_c hc (c := c) hq with e | ⟨-, -, e1, e2, -⟩
      · exact e
      · have := (node_m hc e1).2.2.1
        omega
    obtain ⟨v', I', e1, h1⟩ := d1 e
    exact ⟨v', I', u, by rw [show 0 + 1 + u = u + 1 by omega, e1]; rfl, Nat.le_refl _, h1⟩
  | succ f ih =>
    intro q s u v I h h15 hq he
    obtain ⟨d1, d2⟩ := k_down1 (n := n) (T := f + 1 + u) hn h h15 hr hw hcc hl hq
    unfold dsc
    by_cases e : stpN (cdS S l) q c = 200000
    · obtain ⟨v', I', e1, h1⟩ := d1 e
      exact ⟨v', I', f + 1 + u, by rw [show f + 1 + 1 + u = f + 1 + u + 1 by omega, e1, if_pos e], by omega, by rw [if_pos e]; exact h1⟩
    · obtain ⟨v1, I1, e1, h1, i1, j1, q1⟩ := d2 e
      obtain ⟨-, -, n1, n2, -⟩ := (stp_c hc (c := c) hq).resolve_left e
      obtain ⟨v2, I2, u2, e2, l2, h2, i2, j2, q2⟩ := ih (stpN (cdS S l) q c) (s + 1) u v1 I1 h1 j1 n1 (by omega)
      rw [if_neg e]
      exact ⟨v2, I2, u2, by rw [show f + 1 + 1 + u = f + 1 + u + 1 by omega, e1, e2], l2, h2, i1.tr i2, j2, fun z hz => (q2 z hz).trans (q1 z hz)⟩
theorem k_lvs {c : Nat} {A : Rw} {J : Nat → Int64} (hn : 60 ≤ n) (hr : Row A S) (hw : WF S) (hcc : c < 4096) : ∀ (l : Nat), l < 5 → ∀ (q s t : Nat) (v : Wd) (I : Nat → Int32), MoC v b I J A → I 15 = nI s → isNode (cdS S l) q → 7 * (l + 1) + 1 ≤ t →
    ∃ v' I', m_X7_finds_p45 n t v b (nI c) (nI l) (nI q) = some (nI (lvs S c l q s).1, v') ∧ MoC v' b I' J A ∧ Iq I I' ∧ I' 15 = nI (lvs S c l q s).2 ∧ Fr v v' b := by
  intro l
  induction l with
  | zero =>
    intro hl q s t v I h h15 hq ht
    obtain ⟨v1, I1, u1, e1, l1, h1, i1, j1, q1⟩ := k_down (n := n) (b := b) hn hr hw hcc hl 5 q s (t - 6) v I h h15 hq (sqE_le q)
    rw [show 5 + 1 + (t - 6) = t by omega] at e1
    refine ⟨v1, I1, ?_, h1, i1, j1, q1⟩
    obtain ⟨u1, rfl⟩ : ∃ x, u1 = x + 1 := ⟨u1 - 1, by omega⟩
    rw [e1, m_X7_finds_p45, if_pos (by decide)]
    rfl
  | succ l ih =>
    intro hl q s t v I h h15 hq ht
    obtain ⟨v1, I1, u1, e1, l1, h1, i1, j1, q1⟩ := k_down (n := n) (b := b) hn hr hw hcc hl 5 q s (t - 6) v I h h15 hq (sqE_le q)
    rw [show 5 + 1 + (t - 6) = t by omega, pk_m1] at e1
    rw [if_neg (by omega)] at j1
    have n1 : isNode (cdS S l) (dsc (cdS S (l + 1)) c 5 q s).1 := node_mono (fun c hc => cdS_sub hc) (dsc_node (cdS_12 hw) hq).1
    obtain ⟨v2, I2, e2, h2, i2, j2, q2⟩ := ih (by omega) _ _ u1 v1 I1 h1 j1 n1 (by omega)
    exact ⟨v2, I2, by rw [e1, e2]; rfl, h2, i1.tr i2, j2, fun z hz => (q2 z hz).trans (q1 z hz)⟩
theorem k_finds {c : Nat} {sk : Bool} {I : Nat → Int32} {A : Rw} {J : Nat → Int64} (hn : 60 ≤ n) (h : MoC w b I J A) (hr : Row A S) (hw : WF S) (hcc : c < 4096) : ∃ w' I', m_X7_finds n w b (nI c) (bI sk) = some (nI (fnd S c sk).1, w') ∧ MoC w' b I' J A ∧ Iq I I' ∧ I' 15 = nI (fnd S c sk).2 ∧ Fr w w' b := by
  have fin : ∀ l, l < 5 → ∃ w' I', m_X7_finds_p37 n w b (nI c) (nI l) = some (nI (lvs S c l 0 0).1, w') ∧ MoC w' b I' J A ∧ Iq I I' ∧ I' 15 = nI (lvs S c l 0 0).2 ∧ Fr w w' b := fun l hl => by
    obtain ⟨w1, e1, h1, q1⟩ := h.p15 0
    obtain ⟨w2, I2, e2, h2, i2, j2, q2⟩ := k_lvs (n := n) (b := b) hn hr hw hcc l hl 0 0 n w1 _ h1 setI_self (Or.inl rfl) (by omega)
    exact ⟨w2, I2, by rw [m_X7_finds_p37, e1, Option.bind_some]; exact e2, h2, (Iq.set (by decide) (by decide)).tr i2, j2, fun z hz => (q2 z hz).trans (q1 z hz)⟩
  unfold m_X7_finds fnd
  cases sk with
  | false =>
    obtain ⟨w1, I1, e1, h1⟩ := fin 0 (by decide)
    refine ⟨w1, I1, ?_, h1⟩
    obtain ⟨t, ht⟩ : ∃ u, n = u + 1 := ⟨n - 1, by omega⟩
    rw [show m_X7_finds_p5 n n w b (nI c) (bI false) 0 1 = m_X7_finds_p5 n (t + 1) w b (nI c) (bI false) 0 1 by rw [← ht], m_X7_finds_p5, if_neg (by decide), if_pos (show bI false = 0 from rfl)]
    exact e1
  | true =>
    have hg := glN_lt S 5 (Nat.le_refl _)
    obtain ⟨w1, I1, e1, h1⟩ := fin (glN S 5) (by omega)
    obtain ⟨v, e, hv⟩ := lp (σ := Unit) (R := Int32 × Wd) (fun t k _ => m_X7_finds_p5 n t w b (nI c) (bI true) (nI (glN S k)) (nI k)) (fun _ _ => True) (fun v => v = (nI (lvs S c (glN S 5) 0 0).1, w1)) 5 (by
      rintro t k ⟨⟩ hk -
      left
      refine ⟨(), ?_, trivial⟩
      rw [m_X7_finds_p5, if_neg (show ¬ (5 : Int32) ≤ nI k from nI_ge hk (by decide)), if_neg (show ¬ bI true = 0 by decide), h.c, Option.bind_some, k_pointsOn hn h hr hw hk, cnt_on, Option.bind_some]
      show _ = m_X7_finds_p5 n t w b (nI c) (bI true) (nI (if 0 < (cdS S k).length then k else glN S k)) (nI (k + 1))
      have hlen : (cdS S k).length ≤ 24 := by
        rw [← cnt_on]
        exact cB_le _ 24
      by_cases g : 0 < (cdS S k).length
      · rw [if_neg (nI_nle g (by omega)), if_pos g, nI_1]
      · have : (cdS S k).length = 0 := by omega
        rw [this, if_pos (show nI 0 ≤ 0 from Int32.le_refl _), if_neg (by omega), nI_1]) (by
      rintro t ⟨⟩ -
      exact ⟨_, by rw [m_X7_finds_p5, if_pos (by decide), e1], rfl⟩) 4 1 n () rfl (by omega) trivial
    rw [hv] at e
    refine ⟨w1, I1, ?_, h1⟩
    have g1 : glN S 1 = 0 := by
      show (if 0 < (cdS S 0).length then 0 else 0) = 0
      split <;> rfl
    rw [g1] at e
    exact e
end SF
