/-! WHAT THE CLASS TELLS OF A LEVEL -/
def depN (qs : List Nat) (i : Nat) : Nat := cB (fun k => hB (qs.getD k 0) (qs.getD i 0 / 8)) i
def gdN (qs : List Nat) : Nat → Nat
  | 0 => 0
  | k + 1 => max (gdN qs k) (depN qs k)
theorem mx_nI {a b : Nat} (ha : a < 2 ^ 31) (hb : b < 2 ^ 31) : mxI (nI a) (nI b) = nI (max a b) := by
  unfold mxI
  rcases Nat.lt_or_ge a b with h | h
  · rw [if_pos ((nI_ltI ha hb).mpr h), Nat.max_eq_right (by omega)]
  · rw [if_neg (fun q => by have := (nI_ltI ha hb).mp q; omega), Nat.max_eq_left h]
def b4 (b0 b1 b2 b3 : Bool) : Nat := (if b0 then 1 else 0) + (if b1 then 2 else 0) + (if b2 then 4 else 0) + (if b3 then 8 else 0)
theorem b4_or : ∀ b0 b1 b2 b3 : Bool, ∀ d, d < 4 → nI (b4 b0 b1 b2 b3) ||| ((1 : Int32) <<< (nI d &&& 31 : Int32)) = nI (b4 (b0 || d == 0) (b1 || d == 1) (b2 || d == 2) (b3 || d == 3)) := by decide +kernel
theorem b4_cnt : ∀ b0 b1 b2 b3 : Bool, m_J6_bitCount_0f7a4 (nI (b4 b0 b1 b2 b3)) = nI ((if b0 then 1 else 0) + (if b1 then 1 else 0) + (if b2 then 1 else 0) + (if b3 then 1 else 0)) := by decide +kernel
def qdN (l : List Nat) (q : Nat) : Nat := cB (fun d => decide (kidN l q d ≠ 200000)) 4
def pcB (l qs : List Nat) (k : Nat) : Bool := decide (100000 ≤ kidN l (qs.getD (k / 4) 0) (k % 4)) && decide (kidN l (qs.getD (k / 4) 0) (k % 4) ≠ 200000)
section LQ
variable {n a : Nat} {w : Wd} {cs qs : List Nat}
theorem NodesOf.at (hN : NodesOf cs qs) {i : Nat} (hi : i < qs.length) : isNode cs (qs.getD i 0) := (hN.2 _).mp (getD_mem hi)
theorem m_depth (hn : 60 ≤ n) (h : LvC w a cs qs) (hc : C12 cs) (hN : NodesOf cs qs) {i : Nat} (hi : i < qs.length) : m_X1_depthOf n w a (nI i) = some (nI (depN qs i)) := by
  have h24 := h.2.2.2.2.1
  unfold m_X1_depthOf depN
  obtain ⟨v, e, rfl⟩ := lp (σ := Unit) (R := Int32) (fun t k _ => m_X1_depthOf_p4 n t w a (nI i) (nI (cB (fun k => hB (qs.getD k 0) (qs.getD i 0 / 8)) k)) (nI k)) (fun _ _ => True) (fun v => v = nI (cB (fun k => hB (qs.getD k 0) (qs.getD i 0 / 8)) i)) i (by
    rintro t k ⟨⟩ hk -
    left
    refine ⟨(), ?_, trivial⟩
    obtain ⟨p1, p2, p3, p4⟩ := node_m hc (hN.at hi)
    obtain ⟨r1, r2, r3, r4⟩ := node_m hc (hN.at (show k < qs.length by omega))
    rw [m_X1_depthOf_p4, if_neg (nI_ge hk (by omega)), h.g2, Option.bind_some, h.sqr (by omega), Option.bind_some, Option.bind_some, h.sqr hi, Option.bind_some, sq_corner (by omega), m_holds (by omega) r2 (by omega)]
    show _ = m_X1_depthOf_p4 n t w a (nI i) (nI (cB (fun k => hB (qs.getD k 0) (qs.getD i 0 / 8)) k + if hB (qs.getD k 0) (qs.getD i 0 / 8) then 1 else 0)) (nI (k + 1))
    by_cases c : hB (qs.getD k 0) (qs.getD i 0 / 8) = true
    · rw [if_pos c, if_neg (by decide), if_pos c, nI_1, nI_1]
    · rw [if_neg c, if_pos rfl, if_neg c, nI_1]
      rfl) (by
    rintro t ⟨⟩ -
    exact ⟨_, by rw [m_X1_depthOf_p4, if_pos (Int32.le_refl _)], rfl⟩) i 0 n () (by omega) (by omega) trivial
  exact e
theorem depN_le (qs : List Nat) (i : Nat) : depN qs i ≤ i := cB_le _ i
theorem gdN_le (qs : List Nat) : ∀ i, gdN qs i ≤ i
  | 0 => Nat.le_refl 0
  | k + 1 => by
    have := gdN_le qs k
    have := depN_le qs k
    unfold gdN
    omega
theorem m_gdepth (hn : 60 ≤ n) (h : LvC w a cs qs) (hc : C12 cs) (hN : NodesOf cs qs) : m_X1_greatestDepth n w a = some (nI (gdN qs qs.length)) := by
  have h24 := h.2.2.2.2.1
  unfold m_X1_greatestDepth
  obtain ⟨v, e, rfl⟩ := lp (σ := Unit) (R := Int32) (fun t k _ => m_X1_greatestDepth_p4 n t w a (nI (gdN qs k)) (nI k)) (fun _ _ => True) (fun v => v = nI (gdN qs qs.length)) qs.length (by
    rintro t k ⟨⟩ hk -
    left
    refine ⟨(), ?_, trivial⟩
    have := gdN_le qs k
    have := depN_le qs k
    rw [m_X1_greatestDepth_p4, h.i3, Option.bind_some, if_neg (nI_ge hk (by omega)), h.c, Option.bind_some, m_depth hn h hc hN hk, Option.bind_some, mx_nI (by omega) (by omega), nI_1]
    rfl) (by
    rintro t ⟨⟩ -
    exact ⟨_, by rw [m_X1_greatestDepth_p4, h.i3, Option.bind_some, if_pos (Int32.le_refl _)], rfl⟩) qs.length 0 n () (by omega) (by omega) trivial
  exact e
theorem m_points (hn : 60 ≤ n) (h : LvC w a cs qs) (hc : C12 cs) {q : Nat} (hq : isNode cs q) : m_X1_pointsIn n w a (nI q) = some (nI (cs.filter (hB q)).length) := by
  have h24 := h.2.2.2.1
  obtain ⟨p1, p2, p3, p4⟩ := node_m hc hq
  unfold m_X1_pointsIn
  obtain ⟨v, e, rfl⟩ := lp (σ := Unit) (R := Int32) (fun t k _ => m_X1_pointsIn_p4 n t w a (nI q) (nI ((cs.take k).filter (hB q)).length) (nI k)) (fun _ _ => True) (fun v => v = nI (cs.filter (hB q)).length) cs.length (by
    rintro t k ⟨⟩ hk -
    left
    refine ⟨(), ?_, trivial⟩
    have hk2 := hc _ (getD_mem hk)
    rw [m_X1_pointsIn_p4, h.i1, Option.bind_some, if_neg (nI_ge hk (by omega)), h.g0, Option.bind_some, h.cd hk, Option.bind_some, m_holds (by omega) p2 (by omega), take_s hk, filt_app, List.length_append]
    by_cases c : hB q (cs.getD k 0) = true
    · rw [if_pos c, if_neg (by decide), if_pos c, nI_1, nI_1]
      rfl
    · rw [if_neg c, if_pos rfl, if_neg c, nI_1]
      rfl) (by
    rintro t ⟨⟩ -
    exact ⟨_, by rw [m_X1_pointsIn_p4, h.i1, Option.bind_some, if_pos (Int32.le_refl _), List.take_length], rfl⟩) cs.length 0 n () (by omega) (by omega) trivial
  exact e
theorem any_len {l : List Nat} {f : Nat → Bool} : l.any f = decide ((l.filter f).length ≠ 0) := by
  induction l with
  | nil => rfl
  | cons x l ih =>
    by_cases c : f x = true
    · rw [List.filter_cons_of_pos c, List.any_cons, c, List.length_cons]
      exact (decide_eq_true (by omega)).symm
    · rw [List.filter_cons_of_neg c, List.any_cons, ih]
      cases hx : f x
      · rfl
      · exact absurd hx c
theorem any_app1 {l : List Nat} {x : Nat} {f : Nat → Bool} : (l ++ [x]).any f = (l.any f || f x) := by
  rw [List.any_append, List.any_cons, List.any_nil, Bool.or_false]
theorem kid_any (hc : C12 cs) {q d : Nat} (hq : isNode cs q) (hd : d < 4 := by omega) : decide (kidN cs q d ≠ 200000) = cs.any (inQ q d) := by
  rw [any_len]
  rcases kid_c hc (d := d) hq with ⟨h1, h2⟩ | ⟨h1, -, h2, h3⟩ | ⟨h1, -, h2, -⟩
  · rw [decide_eq_false (fun z => z h2), decide_eq_false (fun z => z h1)]
  · rw [decide_eq_true (show kidN cs q d ≠ 200000 by omega), decide_eq_true h1]
  · rw [decide_eq_true (show kidN cs q d ≠ 200000 by omega), decide_eq_true h1]
theorem m_quads (hn : 60 ≤ n) (h : LvC w a cs qs) (hc : C12 cs) {q : Nat} (hq : isNode cs q) : m_X1_quadrantsIn n w a (nI q) = some (nI (qdN cs q)) := by
  have h24 := h.2.2.2.1
  obtain ⟨p1, p2, p3, p4⟩ := node_m hc hq
  obtain ⟨c0, E, -, E1, E2, hg, -⟩ := node_ex hc hq
  unfold m_X1_quadrantsIn
  obtain ⟨v, e, rfl⟩ := lp (σ := Unit) (R := Int32) (fun t k _ => m_X1_quadrantsIn_p4 n t w a (nI q) (nI (b4 ((cs.take k).any (inQ q 0)) ((cs.take k).any (inQ q 1)) ((cs.take k).any (inQ q 2)) ((cs.take k).any (inQ q 3)))) (nI k)) (fun _ _ => True) (fun v => v = nI (qdN cs q)) cs.length (by
    rintro t k ⟨⟩ hk -
    left
    refine ⟨(), ?_, trivial⟩
    have hk2 := hc _ (getD_mem hk)
    have hI : ∀ d, d < 4 → inQ q d (cs.getD k 0) = (hB q (cs.getD k 0) && decide (cs.getD k 0 / 4 ^ (sqE q - 1) % 4 = d)) := fun d hd => by
      rw [hg, sq_e E2]
      exact inQ_hB E1 E2 hd
    rw [m_X1_quadrantsIn_p4, h.i1, Option.bind_some, if_neg (nI_ge hk (by omega)), h.g0, Option.bind_some, h.cd hk, Option.bind_some, m_holds (by omega) p2 (by omega), take_s hk, any_app1, any_app1, any_app1, any_app1, hI 0 (by decide), hI 1 (by decide), hI 2 (by decide), hI 3 (by decide)]
    by_cases c : hB q (cs.getD k 0) = true
    · rw [if_pos c, if_neg (by decide), Option.bind_some, h.cd hk, Option.bind_some, m_quad (by omega) p2 p3 (by omega), b4_or _ _ _ _ _ (Nat.mod_lt _ (by decide)), c, nI_1]
      rfl
    · rw [if_neg c, if_pos rfl, nI_1, show hB q (cs.getD k 0) = false from Bool.eq_false_iff.mpr c, Bool.false_and, Bool.or_false, Bool.false_and, Bool.or_false, Bool.false_and, Bool.or_false, Bool.false_and, Bool.or_false]) (by
    rintro t ⟨⟩ -
    refine ⟨_, by rw [m_X1_quadrantsIn_p4, h.i1, Option.bind_some, if_pos (Int32.le_refl _), List.take_length, m_X1_quadrantsIn_p46, b4_cnt], ?_⟩
    have eq : qdN cs q = 0 + (if decide (kidN cs q 0 ≠ 200000) then 1 else 0) + (if decide (kidN cs q 1 ≠ 200000) then 1 else 0) + (if decide (kidN cs q 2 ≠ 200000) then 1 else 0) + (if decide (kidN cs q 3 ≠ 200000) then 1 else 0) := rfl
    rw [eq, kid_any hc hq, kid_any hc hq, kid_any hc hq, kid_any hc hq]
    congr 1
    omega) cs.length 0 n () (by omega) (by omega) trivial
  exact e
theorem m_gna (hn : 60 ≤ n) (h : LvC w a cs qs) (hc : C12 cs) (hN : NodesOf cs qs) {ix d : Nat} (hi : ix < qs.length) (hd : d < 4) (hl : ¬ (cs.filter (inQ (qs.getD ix 0) d)).length = 0) (hm : ¬ mnL (cs.filter (inQ (qs.getD ix 0) d)) = mxL (cs.filter (inQ (qs.getD ix 0) d))) :
    m_X1_greatestNodeAround n w a (nI (mnL (cs.filter (inQ (qs.getD ix 0) d)))) (nI ix) = some (nI (ixN qs (kidN cs (qs.getD ix 0) d))) := by
  have h24 := h.2.2.2.2.1
  obtain ⟨e, e1, e2, e3, e4, e5, e6, e7, e8⟩ := kid_node hc (hN.at hi) hd hl hm
  obtain ⟨b1, b2⟩ := ixN_mem hN.1 ((hN.2 _).mpr e5)
  generalize mnL (cs.filter (inQ (qs.getD ix 0) d)) = x at *
  generalize ek : kidN cs (qs.getD ix 0) d = key at *
  have hx := hc x e7
  have hlt : ix < ixN qs key := by
    rcases Nat.lt_or_ge ix (ixN qs key) with g | g
    · exact g
    · have := srt_le (l := qs) (hN.1.imp Nat.le_of_lt) g hi
      omega
  unfold m_X1_greatestNodeAround
  rw [nI_1]
  obtain ⟨v, e, rfl⟩ := lp (σ := Unit) (R := Int32) (fun t k _ => m_X1_greatestNodeAround_p4 n t w a (nI x) (nI k)) (fun k _ => ix < k) (fun v => v = nI (ixN qs key)) (ixN qs key) (by
    rintro t k ⟨⟩ hk hI
    left
    refine ⟨(), ?_, Nat.lt_succ_of_lt hI⟩
    have hk2 : k < qs.length := by omega
    obtain ⟨p1, p2, p3, p4⟩ := node_m hc (hN.at hk2)
    have hf := e8 _ (hN.at hk2) (asc_get hN.1 hI hk2) (by rw [← b2]; exact asc_get hN.1 hk b1)
    rw [m_X1_greatestNodeAround_p4, h.i3, Option.bind_some, if_neg (nI_ge hk2 (by omega)), h.g2, Option.bind_some, h.sqr hk2, Option.bind_some, m_holds (by omega) p2 (by omega), hf, if_pos (by decide), nI_1]) (by
    rintro t ⟨⟩ hI
    refine ⟨_, ?_, rfl⟩
    obtain ⟨p1, p2, p3, p4⟩ := node_m hc e5
    rw [m_X1_greatestNodeAround_p4, h.i3, Option.bind_some, if_neg (nI_ge b1 (by omega)), h.g2, Option.bind_some, h.sqr b1, Option.bind_some, b2, m_holds (by omega) p2 (by omega), e3, sq_hB (by have := sqE_le (qs.getD ix 0); omega), decide_eq_true rfl, if_pos rfl, if_neg (by decide)]) (ixN qs key - (ix + 1)) (ix + 1) n () (by omega) (by omega) (Nat.lt_succ_self _)
  exact e
theorem tell_pos {x : Nat} (hx : x < 4096) : tell qs (100000 + x) = nI (1000 + 64 * yN x + xN x) := by
  unfold tell
  rw [if_neg (by omega), if_pos (by omega), Nat.add_sub_cancel_left]
theorem nI_m1 {x : Nat} (hx : x < 2 ^ 31) : ¬ nI x = -1 := fun q => by
  have := congrArg Int32.toInt q
  rw [nI_toInt hx, show (-1 : Int32).toInt = -1 from rfl] at this
  omega
theorem m_child (hn : 60 ≤ n) (h : LvC w a cs qs) (hs : Srt cs) (hc : C12 cs) (hN : NodesOf cs qs) {ix d : Nat} (hi : ix < qs.length) (hd : d < 4) : m_X1_childOf n w a (nI ix) (nI d) = some (tell qs (kidN cs (qs.getD ix 0) d)) := by
  have h24 := h.2.2.2.1
  have hq := hN.at hi
  obtain ⟨p1, p2, p3, p4⟩ := node_m hc hq
  have hI : ∀ c, inQ (qs.getD ix 0) d c = (hB (qs.getD ix 0) c && decide (c / 4 ^ (sqE (qs.getD ix 0) - 1) % 4 = d)) := fun c => by
    obtain ⟨c0, E, -, E1, E2, e, -⟩ := node_ex hc hq
    rw [e, sq_e E2]
    exact inQ_hB E1 E2 hd
  unfold m_X1_childOf
  rw [h.g2, Option.bind_some, h.sqr hi, Option.bind_some]
  let fst : Nat → Int32 := fun k => if ((cs.take k).filter (inQ (qs.getD ix 0) d)).length = 0 then -1 else nI (mnL ((cs.take k).filter (inQ (qs.getD ix 0) d)))
  let lst : Nat → Int32 := fun k => if ((cs.take k).filter (inQ (qs.getD ix 0) d)).length = 0 then -1 else nI (mxL ((cs.take k).filter (inQ (qs.getD ix 0) d)))
  obtain ⟨v, e, rfl⟩ := lp (σ := Unit) (R := Int32) (fun t k _ => m_X1_childOf_p16 n t w a (nI ix) (nI d) (nI (qs.getD ix 0)) (fst k) (lst k) (nI k)) (fun _ _ => True) (fun v => v = tell qs (kidN cs (qs.getD ix 0) d)) cs.length (by
    rintro t k ⟨⟩ hk -
    left
    refine ⟨(), ?_, trivial⟩
    have hk2 := hc _ (getD_mem hk)
    rw [m_X1_childOf_p16, h.i1, Option.bind_some, if_neg (nI_ge hk (by omega)), h.g0, Option.bind_some, h.cd hk, Option.bind_some, m_holds (by omega) p2 (by omega)]
    have ef : (cs.take (k + 1)).filter (inQ (qs.getD ix 0) d) = (cs.take k).filter (inQ (qs.getD ix 0) d) ++ if inQ (qs.getD ix 0) d (cs.getD k 0) then [cs.getD k 0] else [] := by rw [take_s hk, filt_app]
    by_cases c : hB (qs.getD ix 0) (cs.getD k 0) = true
    · rw [if_pos c, if_neg (by decide), Option.bind_some, h.cd hk, Option.bind_some, m_quad (by omega) p2 p3 (by omega)]
      have hm4 : cs.getD k 0 / 4 ^ (sqE (qs.getD ix 0) - 1) % 4 < 4 := Nat.mod_lt _ (by decide)
      by_cases c2 : cs.getD k 0 / 4 ^ (sqE (qs.getD ix 0) - 1) % 4 = d
      · rw [if_pos (by rw [c2])]
        have hi1 : inQ (qs.getD ix 0) d (cs.getD k 0) = true := by rw [hI, c, decide_eq_true c2]; rfl
        rw [hi1, if_pos rfl] at ef
        have hle : ∀ y ∈ (cs.take k).filter (inQ (qs.getD ix 0) d), y ≤ cs.getD k 0 := fun y hy => by
          obtain ⟨j, hj, ej⟩ := mem_getD (List.mem_filter.mp hy).1
          rw [List.length_take] at hj
          have e2 : (cs.take k).getD j 0 = cs.getD j 0 := by
            rw [List.getD_eq_getElem?_getD, List.getD_eq_getElem?_getD, List.getElem?_take, if_pos (by omega)]
          rw [← ej, e2]
          exact srt_le hs (by omega) hk
        have n1 : fst (k + 1) = if ((cs.take k).filter (inQ (qs.getD ix 0) d)).length = 0 then nI (cs.getD k 0) else fst k := by
          show (if ((cs.take (k + 1)).filter (inQ (qs.getD ix 0) d)).length = 0 then (-1 : Int32) else nI (mnL ((cs.take (k + 1)).filter (inQ (qs.getD ix 0) d)))) = if ((cs.take k).filter (inQ (qs.getD ix 0) d)).length = 0 then nI (cs.getD k 0) else (if ((cs.take k).filter (inQ (qs.getD ix 0) d)).length = 0 then (-1 : Int32) else nI (mnL ((cs.take k).filter (inQ (qs.getD ix 0) d))))
          rw [ef, List.length_append, if_neg (by rw [List.length_cons]; omega), mnL_app (by omega)]
          generalize (cs.take k).filter (inQ (qs.getD ix 0) d) = m at hle ⊢
          cases m with
          | nil =>
            show nI (min 4096 (cs.getD k 0)) = nI (cs.getD k 0)
            rw [Nat.min_eq_right (by omega)]
          | cons y m =>
            rw [if_neg (by rw [List.length_cons]; omega), if_neg (by rw [List.length_cons]; omega), Nat.min_eq_left]
            exact Nat.le_trans (mnL_le (List.mem_cons_self (l := m))) (hle y List.mem_cons_self)
        have n2 : lst (k + 1) = nI (cs.getD k 0) := by
          show (if ((cs.take (k + 1)).filter (inQ (qs.getD ix 0) d)).length = 0 then (-1 : Int32) else nI (mxL ((cs.take (k + 1)).filter (inQ (qs.getD ix 0) d)))) = _
          rw [ef, List.length_append, if_neg (by rw [List.length_cons]; omega), mxL_app]
          generalize (cs.take k).filter (inQ (qs.getD ix 0) d) = m at hle ⊢
          cases m with
          | nil => rw [show mxL [] = 0 from rfl, Nat.max_eq_right (by omega)]
          | cons y m => rw [Nat.max_eq_right (hle _ (mxL_mem (by simp)))]
        rw [n1, n2]
        by_cases c3 : ((cs.take k).filter (inQ (qs.getD ix 0) d)).length = 0
        · rw [if_pos (show fst k = -1 from if_pos c3), Option.bind_some, h.cd hk, Option.bind_some, Option.bind_some, h.cd hk, Option.bind_some, if_pos c3, nI_1]
        · have : ¬ fst k = -1 := by
            show ¬ (if ((cs.take k).filter (inQ (qs.getD ix 0) d)).length = 0 then (-1 : Int32) else nI (mnL ((cs.take k).filter (inQ (qs.getD ix 0) d)))) = -1
            rw [if_neg c3]
            have := mnL_mem (ne_of_len c3) fun x hx => hc x (List.mem_of_mem_take (List.mem_filter.mp hx).1)
            have := hc _ (List.mem_of_mem_take (List.mem_filter.mp this).1)
            exact nI_m1 (by omega)
          rw [if_neg this, Option.bind_some, h.cd hk, Option.bind_some, if_neg c3, nI_1]
      · have hi1 : inQ (qs.getD ix 0) d (cs.getD k 0) = false := by rw [hI, decide_eq_false c2, Bool.and_false]
        rw [hi1, if_neg (by decide), List.append_nil] at ef
        rw [if_neg (fun z => c2 ((nI_eq (by omega) (by omega)).mp z)), nI_1]
        show _ = m_X1_childOf_p16 n t w a (nI ix) (nI d) (nI (qs.getD ix 0)) (if ((cs.take (k + 1)).filter (inQ (qs.getD ix 0) d)).length = 0 then (-1 : Int32) else nI (mnL ((cs.take (k + 1)).filter (inQ (qs.getD ix 0) d)))) (if ((cs.take (k + 1)).filter (inQ (qs.getD ix 0) d)).length = 0 then (-1 : Int32) else nI (mxL ((cs.take (k + 1)).filter (inQ (qs.getD ix 0) d)))) _
        rw [ef]
    · have hi1 : inQ (qs.getD ix 0) d (cs.getD k 0) = false := by rw [hI, Bool.eq_false_iff.mpr c, Bool.false_and]
      rw [hi1, if_neg (by decide), List.append_nil] at ef
      rw [if_neg c, if_pos rfl, nI_1]
      show _ = m_X1_childOf_p16 n t w a (nI ix) (nI d) (nI (qs.getD ix 0)) (if ((cs.take (k + 1)).filter (inQ (qs.getD ix 0) d)).length = 0 then (-1 : Int32) else nI (mnL ((cs.take (k + 1)).filter (inQ (qs.getD ix 0) d)))) (if ((cs.take (k + 1)).filter (inQ (qs.getD ix 0) d)).length = 0 then (-1 : Int32) else nI (mxL ((cs.take (k + 1)).filter (inQ (qs.getD ix 0) d)))) _
      rw [ef]) (by
    rintro t ⟨⟩ -
    refine ⟨_, ?_, rfl⟩
    show m_X1_childOf_p16 n (t + 1) w a (nI ix) (nI d) (nI (qs.getD ix 0)) (if ((cs.take cs.length).filter (inQ (qs.getD ix 0) d)).length = 0 then (-1 : Int32) else nI (mnL ((cs.take cs.length).filter (inQ (qs.getD ix 0) d)))) (if ((cs.take cs.length).filter (inQ (qs.getD ix 0) d)).length = 0 then (-1 : Int32) else nI (mxL ((cs.take cs.length).filter (inQ (qs.getD ix 0) d)))) (nI cs.length) = _
    rw [List.take_length, m_X1_childOf_p16, h.i1, Option.bind_some, if_pos (Int32.le_refl _), m_X1_childOf_p89]
    rcases kid_c hc (d := d) hq with ⟨h1, h2⟩ | ⟨h1, h2, h3, h4⟩ | ⟨h1, h2, h3, h4⟩
    · rw [if_pos h1, if_pos h1, if_pos rfl, if_pos rfl, h2]
      rfl
    · obtain ⟨⟨x1, x2⟩, y1, y2⟩ := xy6_all _ h4
      rw [if_neg h1, if_neg h1, h3, tell_pos h4, ← h2, if_pos rfl, if_neg (nI_m1 (by omega)), x1, y1, show (64 : Int32) = nI 64 from rfl, pk_mul, show (1000 : Int32) = nI 1000 from rfl, nI_add, nI_add]
    · have m1 := hc _ (List.mem_filter.mp (mnL_mem (ne_of_len h1) fun x hx => hc x (List.mem_filter.mp hx).1)).1
      have m2 := hc _ (List.mem_filter.mp (mxL_mem (ne_of_len h1))).1
      rw [if_neg h1, if_neg h1, if_neg (fun z => h2 ((nI_eq (by omega) (by omega)).mp z)), h.c, Option.bind_some, m_gna hn h hc hN hi hd h1 h2, Option.bind_some]
      unfold tell
      rw [if_neg (by omega), if_neg (by omega)]) cs.length 0 n () (by omega) (by omega) trivial
  exact e
theorem tell_c (hc : C12 cs) (hN : NodesOf cs qs) (h24 : qs.length ≤ 24) {q d : Nat} (hq : isNode cs q) (hd : d < 4 := by omega) :
    (kidN cs q d = 200000 ∧ tell qs (kidN cs q d) = -1) ∨ (∃ x, 1000 ≤ x ∧ x < 6000 ∧ 100000 ≤ kidN cs q d ∧ kidN cs q d ≠ 200000 ∧ tell qs (kidN cs q d) = nI x) ∨ (kidN cs q d < 40000 ∧ isNode cs (kidN cs q d) ∧ tell qs (kidN cs q d) = nI (ixN qs (kidN cs q d)) ∧ ixN qs (kidN cs q d) < qs.length ∧ qs.getD (ixN qs (kidN cs q d)) 0 = kidN cs q d) := by
  rcases kid_c hc (d := d) hq with ⟨h1, h2⟩ | ⟨h1, h2, h3, h4⟩ | ⟨h1, h2, h3, h4⟩
  · left
    exact ⟨h2, by rw [h2]; rfl⟩
  · right; left
    obtain ⟨⟨x1, x2⟩, y1, y2⟩ := xy6_all _ h4
    exact ⟨1000 + 64 * yN (mnL (cs.filter (inQ q d))) + xN (mnL (cs.filter (inQ q d))), by omega, by omega, by omega, by omega, by rw [h3, tell_pos h4]⟩
  · right; right
    obtain ⟨b1, b2⟩ := ixN_mem hN.1 ((hN.2 _).mpr h4)
    exact ⟨h3, h4, by unfold tell; rw [if_neg (by omega), if_neg (by omega)], b1, b2⟩
theorem m_posch (hn : 60 ≤ n) (h : LvC w a cs qs) (hs : Srt cs) (hc : C12 cs) (hN : NodesOf cs qs) : m_X1_positionChildren n w a = some (nI (cB (pcB cs qs) (4 * qs.length))) := by
  have h24 := h.2.2.2.2.1
  unfold m_X1_positionChildren
  obtain ⟨v, e, rfl⟩ := lp (σ := Unit) (R := Int32) (fun t k _ => m_X1_positionChildren_p4 n t w a (nI (cB (pcB cs qs) (4 * k))) (nI k)) (fun _ _ => True) (fun v => v = nI (cB (pcB cs qs) (4 * qs.length))) qs.length (by
    rintro t k ⟨⟩ hk -
    left
    refine ⟨(), ?_, trivial⟩
    rw [m_X1_positionChildren_p4, h.i3, Option.bind_some, if_neg (nI_ge hk (by omega))]
    obtain ⟨u, e, -⟩ := lpk (σ := Unit) (τ := Unit) (R := Option Int32) (fun t' d _ => m_X1_positionChildren_p14 n (fun w b0 b1 b2 => m_X1_positionChildren_p4 n t w b0 b1 b2) t' w a (nI (cB (pcB cs qs) (4 * k + d))) (nI k) (nI d)) (fun _ => m_X1_positionChildren_p4 n t w a (nI (cB (pcB cs qs) (4 * (k + 1)))) (nI (k + 1))) (fun _ _ => True) (fun _ => True) 4 (by
      rintro t' d ⟨⟩ hd -
      left
      refine ⟨(), ?_, trivial⟩
      have e1 : (4 * k + d) / 4 = k := by omega
      have e2 : (4 * k + d) % 4 = d := by omega
      rw [m_X1_positionChildren_p14, if_neg (show ¬ (4 : Int32) ≤ nI d from nI_ge hd (by decide)), h.c, Option.bind_some, m_child hn h hs hc hN hk hd, Option.bind_some]
      show _ = m_X1_positionChildren_p14 n _ t' w a (nI (cB (pcB cs qs) (4 * k + d) + if pcB cs qs (4 * k + d) then 1 else 0)) (nI k) (nI (d + 1))
      have ep : pcB cs qs (4 * k + d) = (decide (100000 ≤ kidN cs (qs.getD k 0) d) && decide (kidN cs (qs.getD k 0) d ≠ 200000)) := by
        unfold pcB
        rw [e1, e2]
      rcases tell_c hc hN h24 (d := d) (hN.at hk) with ⟨a1, a2⟩ | ⟨x, a1, a2, a3, a4, a5⟩ | ⟨a1, a2, a3, a4, a5⟩
      · rw [a2, if_pos (by decide), ep, a1, if_neg (by decide), nI_1]
        rfl
      · rw [a5, if_neg (show ¬ nI x < 1000 from nI_nlt a1 (by omega)), ep, decide_eq_true a3, decide_eq_true a4, if_pos (show (true && true) = true from rfl), nI_1, nI_1]
      · rw [a3, if_pos (show nI (ixN qs (kidN cs (qs.getD k 0) d)) < 1000 from nI_lt (show ixN qs (kidN cs (qs.getD k 0) d) < 1000 by omega) (by decide)), ep, decide_eq_false (show ¬ 100000 ≤ kidN cs (qs.getD k 0) d by omega), Bool.false_and, if_neg (by decide), nI_1]
        rfl) (by
      rintro t' ⟨⟩ -
      exact ⟨(), by rw [m_X1_positionChildren_p14, if_pos (by decide), nI_1]; rfl, trivial⟩) 4 0 n () rfl (by omega) trivial
    exact e) (by
    rintro t ⟨⟩ -
    exact ⟨_, by rw [m_X1_positionChildren_p4, h.i3, Option.bind_some, if_pos (Int32.le_refl _)], rfl⟩) qs.length 0 n () (by omega) (by omega) trivial
  exact e
end LQ
