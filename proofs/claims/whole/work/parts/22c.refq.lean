/-! WHAT THE REFERENCE TELLS OF A LEVEL -/
abbrev Iq (I I' : Nat → Int32) : Prop := ∀ k, k < 12 ∨ 15 < k → I' k = I k
theorem Iq.rf {I : Nat → Int32} : Iq I I := fun _ _ => rfl
theorem Iq.tr {I I' I2 : Nat → Int32} (h : Iq I I') (g : Iq I' I2) : Iq I I2 := fun k hk => (g k hk).trans (h k hk)
theorem Iq.set {I : Nat → Int32} {k : Nat} {x : Int32} (h : 12 ≤ k) (h2 : k ≤ 15) : Iq I (setI I k x) := fun j hj => setI_ne (by omega)
def kI (k : Nat) : Int32 := if k = 200000 then -1 else nI k
section RQ
variable {n b l : Nat} {w : Wd} {I : Nat → Int32} {J : Nat → Int64} {A : Rw} {S : Nat → Int32}
theorem k_pointsOn (hn : 60 ≤ n) (h : MoC w b I J A) (hr : Row A S) (hw : WF S) (hl : l < 5) : m_X7_pointsOn n w b (nI l) = some (nI (cB (onB S l) 24)) := by
  unfold m_X7_pointsOn
  obtain ⟨v, e, rfl⟩ := lp (σ := Unit) (R := Int32) (fun t k _ => m_X7_pointsOn_p4 n t w b (nI l) (nI (cB (onB S l) k)) (nI k)) (fun _ _ => True) (fun v => v = nI (cB (onB S l) 24)) 24 (by
    rintro t k ⟨⟩ hk -
    left
    refine ⟨(), ?_, trivial⟩
    rw [m_X7_pointsOn_p4, if_neg (show ¬ (24 : Int32) ≤ nI k from nI_ge hk (by decide)), h.c, Option.bind_some, m_on (by omega) h hr hw hk hl, Option.bind_some]
    show _ = m_X7_pointsOn_p4 n t w b (nI l) (nI (cB (onB S l) k + if onB S l k then 1 else 0)) (nI (k + 1))
    by_cases c : onB S l k = true
    · rw [if_pos ((onB_iff hk).mp c), if_neg (by decide), if_pos c, nI_1, nI_1]
    · rw [if_neg (fun z => c ((onB_iff hk).mpr z)), if_pos rfl, if_neg c, Int32.add_zero, nI_1]
      rfl) (by
    rintro t ⟨⟩ -
    exact ⟨_, by rw [m_X7_pointsOn_p4, if_pos (by decide)], rfl⟩) 24 0 n () rfl (by omega) trivial
  exact e
theorem cnt_on (S : Nat → Int32) (l : Nat) : cB (onB S l) 24 = (cdS S l).length := by
  have := onL_all (S := S) (l := l) (g := fun _ => true)
  have e := congrArg List.length this
  rw [List.filter_eq_self.mpr (fun _ _ => rfl)] at e
  rw [← e]
  unfold onL
  rw [List.length_map, cB_range]
  congr 1
  exact List.filter_congr fun i _ => by rw [Bool.and_true]
theorem k_nodeAt {qs : List Nat} {i : Nat} (h : MoC w b I J A) (hl : l < 5) (ht : Tb A 4 5 l qs) (h24 : qs.length ≤ 24) (hi : i < qs.length) : m_X7_nodeAt n w b (nI l) (nI i) = some (nI (qs.getD i 0)) := by
  rw [m_X7_nodeAt, h.g7, Option.bind_some, e32, h.r7 (by omega), Option.bind_some, ht.2 i hi]
theorem k_depth {cs qs : List Nat} {i : Nat} (hn : 60 ≤ n) (h : MoC w b I J A) (hl : l < 5) (ht : Tb A 4 5 l qs) (h24 : qs.length ≤ 24) (hc : C12 cs) (hN : NodesOf cs qs) (hi : i < qs.length) : m_X7_depthOf n w b (nI l) (nI i) = some (nI (depN qs i)) := by
  unfold m_X7_depthOf depN
  obtain ⟨v, e, rfl⟩ := lp (σ := Unit) (R := Int32) (fun t k _ => m_X7_depthOf_p5 n t w b (nI l) (nI i) (nI (cB (fun k => hB (qs.getD k 0) (qs.getD i 0 / 8)) k)) (nI k)) (fun _ _ => True) (fun v => v = nI (cB (fun k => hB (qs.getD k 0) (qs.getD i 0 / 8)) i)) i (by
    rintro t k ⟨⟩ hk -
    left
    refine ⟨(), ?_, trivial⟩
    obtain ⟨p1, p2, p3, p4⟩ := node_m hc (hN.at hi)
    obtain ⟨r1, r2, r3, r4⟩ := node_m hc (hN.at (show k < qs.length by omega))
    rw [m_X7_depthOf_p5, if_neg (nI_ge hk (by omega)), h.c, Option.bind_some, k_nodeAt h hl ht h24 (by omega), Option.bind_some, Option.bind_some, k_nodeAt h hl ht h24 hi, Option.bind_some, k_firstOf, sq_corner (by omega), k_holds (by omega) r2 (by omega)]
    show _ = m_X7_depthOf_p5 n t w b (nI l) (nI i) (nI (cB (fun k => hB (qs.getD k 0) (qs.getD i 0 / 8)) k + if hB (qs.getD k 0) (qs.getD i 0 / 8) then 1 else 0)) (nI (k + 1))
    by_cases c : hB (qs.getD k 0) (qs.getD i 0 / 8) = true
    · rw [if_pos c, if_neg (by decide), if_pos c, nI_1, nI_1]
    · rw [if_neg c, if_pos rfl, if_neg c, Int32.add_zero, nI_1]
      rfl) (by
    rintro t ⟨⟩ -
    exact ⟨_, by rw [m_X7_depthOf_p5, if_pos (Int32.le_refl _)], rfl⟩) i 0 n () (by omega) (by omega) trivial
  exact e
theorem mnL_4096 : ∀ l : List Nat, mnL l ≤ 4096
  | [] => Nat.le_refl _
  | a :: l => by
    have := mnL_4096 l
    simp only [mnL]
    omega
/-- looking at the codes of a level with a property -/
theorem k_looks {f s : Nat} (hn : 60 ≤ n) (h : MoC w b I J A) (hr : Row A S) (hw : WF S) (hl : l < 5) (hf : f < 2 ^ 31) (hs : s ≤ 6) :
    ∃ w' I', m_X7_looksAt n w b (nI l) (nI f) (nI s) = some w' ∧ MoC w' b I' J A ∧ Iq I I' ∧ I' 12 = nI ((cdS S l).filter fun c => decide (c / 4 ^ s = f / 4 ^ s)).length ∧ I' 13 = nI (mnL ((cdS S l).filter fun c => decide (c / 4 ^ s = f / 4 ^ s))) ∧ I' 14 = (if ((cdS S l).filter fun c => decide (c / 4 ^ s = f / 4 ^ s)).length = 0 then -1 else nI (mxL ((cdS S l).filter fun c => decide (c / 4 ^ s = f / 4 ^ s)))) ∧ I' 15 = I 15 ∧ Fr w w' b := by
  generalize hg : (fun c => decide (c / 4 ^ s = f / 4 ^ s)) = g
  obtain ⟨w1, e1, h1, q1⟩ := h.p12 0
  obtain ⟨w2, e2, h2, q2⟩ := h1.p13 4096
  obtain ⟨w3, e3, h3, q3⟩ := h2.p14 (-1)
  rw [m_X7_looksAt, e1, Option.bind_some, e2, Option.bind_some, e3, Option.bind_some]
  have Q3 : Fr w w3 b := fun q hq => (q3 q hq).trans ((q2 q hq).trans (q1 q hq))
  obtain ⟨w4, e4, I4, h4, i4, i12, i13, i14, i15, q4⟩ := lp (σ := Wd) (R := Wd) (fun t k v => m_X7_looksAt_p20 n t v b (nI l) (nI f) (nI s) (nI k)) (fun k v => ∃ I', MoC v b I' J A ∧ Iq I I' ∧ I' 12 = nI (onL S l g k).length ∧ I' 13 = nI (mnL (onL S l g k)) ∧ I' 14 = (if (onL S l g k).length = 0 then -1 else nI (mxL (onL S l g k))) ∧ I' 15 = I 15 ∧ Fr w v b) (fun v => ∃ I', MoC v b I' J A ∧ Iq I I' ∧ I' 12 = nI (onL S l g 24).length ∧ I' 13 = nI (mnL (onL S l g 24)) ∧ I' 14 = (if (onL S l g 24).length = 0 then -1 else nI (mxL (onL S l g 24))) ∧ I' 15 = I 15 ∧ Fr w v b) 24 (by
    rintro t k v hk ⟨I0, h0, i0, i12, i13, i14, i15, q0⟩
    left
    obtain ⟨-, -, -, -, -, -, -, hc4⟩ := codeS_at (hw.1 k hk)
    have hlen : ∀ m, (onL S l g m).length ≤ m := fun m => by
      unfold onL
      rw [List.length_map, ← cB_range]
      exact cB_le _ m
    have hlk := hlen k
    show ∃ s', m_X7_looksAt_p20 n (t + 1) v b (nI l) (nI f) (nI s) (nI k) = _ ∧ _
    rw [m_X7_looksAt_p20, if_neg (show ¬ (24 : Int32) ≤ nI k from nI_ge hk (by decide)), h0.c, Option.bind_some, m_place7 (by omega) h0 hr hw hk, Option.bind_some, Option.bind_some, m_on (by omega) h0 hr hw hk hl, Option.bind_some]
    rw [onL_succ]
    by_cases c : onB S l k = true
    · rw [if_pos ((onB_iff hk).mp c), if_neg (by decide), shr2 (lt31 hc4) hs, shr2 hf hs]
      by_cases d : codeS S k / 4 ^ s = f / 4 ^ s
      · have gt : g (codeS S k) = true := by rw [← hg]; exact decide_eq_true d
        rw [if_pos (by rw [d]), c, gt, if_pos (show (true && true) = true from rfl), h0.i12, Option.bind_some]
        obtain ⟨v1, f1, g1, r1⟩ := h0.p12 (I0 12 + 1)
        rw [f1, Option.bind_some, g1.i13, Option.bind_some, setI_ne (by decide), i13]
        have hmn := mnL_4096 (onL S l g k)
        have hL : (onL S l g k ++ [codeS S k]).length = (onL S l g k).length + 1 := by rw [List.length_append]; rfl
        have E13 : mnL (onL S l g k ++ [codeS S k]) = min (mnL (onL S l g k)) (codeS S k) := mnL_app (by omega)
        have E14 : mxL (onL S l g k ++ [codeS S k]) = max (mxL (onL S l g k)) (codeS S k) := mxL_app
        have hmx : mxL (onL S l g k) < 2 ^ 31 := by
          by_cases z : onL S l g k = []
          · rw [z]; decide
          · have := mxL_mem z
            unfold onL at this
            obtain ⟨j, hj, ej⟩ := List.mem_map.mp this
            have hj2 := List.mem_range.mp (List.mem_filter.mp hj).1
            obtain ⟨-, -, -, -, -, -, -, hx⟩ := codeS_at (hw.1 j (by omega))
            unfold onL
            omega
        have last : ∀ (v2 : Wd) (I2 : Nat → Int32), MoC v2 b I2 J A → Iq I I2 → I2 12 = nI (onL S l g k ++ [codeS S k]).length → I2 13 = nI (mnL (onL S l g k ++ [codeS S k])) → I2 14 = I0 14 → I2 15 = I 15 → Fr w v2 b → ∃ v3, ((gfI 6 14 v2 b).bind fun x10 => if nI (codeS S k) ≤ x10 then (gfI 6 14 v2 b).bind fun x11 => (pfV 6 14 v2 b (.int x11)).bind fun w12 => m_X7_looksAt_p20 n t w12 b (nI l) (nI f) (nI s) (nI k + 1) else (pfV 6 14 v2 b (.int (nI (codeS S k)))).bind fun w13 => m_X7_looksAt_p20 n t w13 b (nI l) (nI f) (nI s) (nI k + 1)) = m_X7_looksAt_p20 n t v3 b (nI l) (nI f) (nI s) (nI (k + 1)) ∧ ∃ I', MoC v3 b I' J A ∧ Iq I I' ∧ I' 12 = nI (onL S l g k ++ [codeS S k]).length ∧ I' 13 = nI (mnL (onL S l g k ++ [codeS S k])) ∧ I' 14 = (if (onL S l g k ++ [codeS S k]).length = 0 then -1 else nI (mxL (onL S l g k ++ [codeS S k]))) ∧ I' 15 = I 15 ∧ Fr w v3 b := fun v2 I2 g2 a1 a2 a3 a4 a5 a6 => by
          rw [g2.i14, Option.bind_some, a4, i14, hL, if_neg (show ¬ (onL S l g k).length + 1 = 0 by omega), E14]
          by_cases z : (onL S l g k).length = 0
          · rw [if_pos z, if_neg (by
              intro y
              have := Int32.le_iff_toInt_le.mp y
              rw [nI_toInt (by omega), show (-1 : Int32).toInt = -1 from rfl] at this
              omega)]
            obtain ⟨v3, f3, g3, r3⟩ := g2.p14 (nI (codeS S k))
            refine ⟨v3, by rw [f3, Option.bind_some, nI_1], _, g3, a1.tr (Iq.set (by decide) (by decide)), by rw [setI_ne (by decide), a2, hL], by rw [setI_ne (by decide), a3], ?_, by rw [setI_ne (by decide), a5], fun q hq => (r3 q hq).trans (a6 q hq)⟩
            rw [setI_self, show onL S l g k = [] from List.eq_nil_of_length_eq_zero z, show mxL [] = 0 from rfl, Nat.max_eq_right (Nat.zero_le _)]
          · rw [if_neg z]
            by_cases y : codeS S k ≤ mxL (onL S l g k)
            · rw [if_pos ((nI_leI (by omega) hmx).mpr y), Option.bind_some]
              obtain ⟨v3, f3, g3, r3⟩ := g2.p14 (nI (mxL (onL S l g k)))
              refine ⟨v3, by rw [f3, Option.bind_some, nI_1], _, g3, a1.tr (Iq.set (by decide) (by decide)), by rw [setI_ne (by decide), a2, hL], by rw [setI_ne (by decide), a3], ?_, by rw [setI_ne (by decide), a5], fun q hq => (r3 q hq).trans (a6 q hq)⟩
              rw [setI_self, Nat.max_eq_left y]
            · rw [if_neg (fun x => y ((nI_leI (by omega) hmx).mp x))]
              obtain ⟨v3, f3, g3, r3⟩ := g2.p14 (nI (codeS S k))
              refine ⟨v3, by rw [f3, Option.bind_some, nI_1], _, g3, a1.tr (Iq.set (by decide) (by decide)), by rw [setI_ne (by decide), a2, hL], by rw [setI_ne (by decide), a3], ?_, by rw [setI_ne (by decide), a5], fun q hq => (r3 q hq).trans (a6 q hq)⟩
              rw [setI_self, Nat.max_eq_right (by omega)]
        have j12 : I0 12 + 1 = nI (onL S l g k ++ [codeS S k]).length := by rw [i12, nI_1, hL]
        by_cases y : mnL (onL S l g k) ≤ codeS S k
        · rw [if_pos ((nI_leI (by omega) (by omega)).mpr y), Option.bind_some]
          obtain ⟨v2, f2, g2, r2⟩ := g1.p13 (nI (mnL (onL S l g k)))
          rw [f2, Option.bind_some]
          exact last v2 _ g2 ((i0.tr (Iq.set (by decide) (by decide))).tr (Iq.set (by decide) (by decide))) (by rw [setI_ne (by decide), setI_self, j12]) (by rw [setI_self, E13, Nat.min_eq_left y]) (by rw [setI_ne (by decide), setI_ne (by decide)]) (by rw [setI_ne (by decide), setI_ne (by decide), i15]) fun q hq => (r2 q hq).trans ((r1 q hq).trans (q0 q hq))
        · rw [if_neg (fun x => y ((nI_leI (by omega) (by omega)).mp x))]
          obtain ⟨v2, f2, g2, r2⟩ := g1.p13 (nI (codeS S k))
          rw [f2, Option.bind_some]
          exact last v2 _ g2 ((i0.tr (Iq.set (by decide) (by decide))).tr (Iq.set (by decide) (by decide))) (by rw [setI_ne (by decide), setI_self, j12]) (by rw [setI_self, E13, Nat.min_eq_right (by omega)]) (by rw [setI_ne (by decide), setI_ne (by decide)]) (by rw [setI_ne (by decide), setI_ne (by decide), i15]) fun q hq => (r2 q hq).trans ((r1 q hq).trans (q0 q hq))
      · have gf : g (codeS S k) = false := by rw [← hg]; exact decide_eq_false d
        rw [if_neg (fun z => d ((nI_eq (div_lt31 (lt31 hc4)) (div_lt31 hf)).mp z)), c, gf, if_neg (show ¬ (true && false) = true by decide), List.append_nil, nI_1]
        exact ⟨v, rfl, I0, h0, i0, i12, i13, i14, i15, q0⟩
    · rw [if_neg (fun z => c ((onB_iff hk).mpr z)), if_pos rfl, Bool.eq_false_iff.mpr c, Bool.false_and, if_neg (show ¬ false = true by decide), List.append_nil, nI_1]
      exact ⟨v, rfl, I0, h0, i0, i12, i13, i14, i15, q0⟩) (by
    rintro t v h0
    refine ⟨v, ?_, h0⟩
    show m_X7_looksAt_p20 n (t + 1) v b (nI l) (nI f) (nI s) (nI 24) = _
    rw [m_X7_looksAt_p20, if_pos (by decide)]) 24 0 n w3 rfl (by omega) ⟨_, h3, ((Iq.set (by decide) (by decide)).tr (Iq.set (by decide) (by decide))).tr (Iq.set (by decide) (by decide)), by rw [setI_ne (by decide), setI_ne (by decide), setI_self]; rfl, by rw [setI_ne (by decide), setI_self]; rfl, by rw [setI_self]; rfl, by rw [setI_ne (by decide), setI_ne (by decide), setI_ne (by decide)], Q3⟩
  rw [onL_all] at i12 i13 i14
  exact ⟨w4, I4, e4, h4, i4, i12, i13, i14, i15, q4⟩
/-- the reference's child of a node -/
theorem k_child {q d : Nat} (hn : 60 ≤ n) (h : MoC w b I J A) (hr : Row A S) (hw : WF S) (hl : l < 5) (hq : isNode (cdS S l) q) (hd : d < 4) :
    ∃ w' I', m_X7_childOf n w b (nI l) (nI q) (nI d) = some (kI (kidN (cdS S l) q d), w') ∧ MoC w' b I' J A ∧ Iq I I' ∧ I' 15 = I 15 ∧ Fr w w' b := by
  have hc := cdS_12 hw (l := l)
  obtain ⟨p1, p2, p3, p4⟩ := node_m hc hq
  have pe := sqE_le q
  have h4 : 4 ^ (sqE q - 1) ≤ 1024 := by
    have : 4 ^ (sqE q - 1) ≤ 4 ^ 5 := Nat.pow_le_pow_right (by decide) (by omega)
    exact this
  have hd4 : d * 4 ^ (sqE q - 1) ≤ 3 * 1024 := Nat.mul_le_mul (by omega) h4
  obtain ⟨w1, I1, e1, h1, i1, a12, a13, a14, a15, q1⟩ := k_looks (n := n) (f := q / 8 + d * 4 ^ (sqE q - 1)) (s := sqE q - 1) hn h hr hw hl (by omega) (by omega)
  have eg : (fun c => decide (c / 4 ^ (sqE q - 1) = (q / 8 + d * 4 ^ (sqE q - 1)) / 4 ^ (sqE q - 1))) = inQ q d := by
    funext c
    unfold inQ
    rw [Nat.add_mul_div_right _ _ (Nat.pow_pos (by decide))]
  rw [eg] at a12 a13 a14
  have hlen : ((cdS S l).filter (inQ q d)).length ≤ 24 := by
    rw [← onL_all]
    unfold onL
    rw [List.length_map, ← cB_range]
    exact cB_le _ 24
  refine ⟨w1, I1, ?_, h1, i1, a15, q1⟩
  rw [m_X7_childOf, h.c, Option.bind_some, k_firstOf, k_span, sq_corner (by omega), sq_exp (by omega) p2, show (1 : Int32) = nI 1 from rfl, pk_sub p3, shl2 (by omega) (by omega), nI_add, e1, Option.bind_some, h1.i12, Option.bind_some, a12]
  rcases kid_c hc (d := d) hq with ⟨b1, b2⟩ | ⟨b1, b2, b3, b4⟩ | ⟨b1, b2, b3, b4⟩
  · rw [b1, if_pos (show nI 0 = 0 from rfl), b2]
    rfl
  · rw [if_neg (nI_ne0 (by omega) (by omega)), h1.i13, Option.bind_some, h1.i14, Option.bind_some, a13, a14, if_neg b1, ← b2, if_pos rfl, Option.bind_some, b3, show (100000 : Int32) = nI 100000 from rfl, nI_add]
    unfold kI
    rw [if_neg (by omega)]
  · have m1 := hc _ (List.mem_filter.mp (mnL_mem (ne_of_len b1) fun x hx => hc x (List.mem_filter.mp hx).1)).1
    have m2 := hc _ (List.mem_filter.mp (mxL_mem (ne_of_len b1))).1
    have ek : kidN (cdS S l) q d = sq (mnL ((cdS S l).filter (inQ q d))) (spn (mnL ((cdS S l).filter (inQ q d))) (mxL ((cdS S l).filter (inQ q d)))) := by
      unfold kidN
      rw [if_neg b1, if_neg b2]
    rw [if_neg (nI_ne0 (by omega) (by omega)), h1.i13, Option.bind_some, h1.i14, Option.bind_some, a13, a14, if_neg b1, if_neg (fun z => b2 ((nI_eq (by omega) (by omega)).mp z)), Option.bind_some, Option.bind_some, m_spanOf (by omega) m1 m2, Option.bind_some, Option.bind_some, m_sqpair m1, ← ek]
    unfold kI
    rw [if_neg (by omega)]
theorem k_index {qs : List Nat} {q : Nat} (hn : 60 ≤ n) (h : MoC w b I J A) (hl : l < 5) (ht : Tb A 4 5 l qs) (h24 : qs.length ≤ 24) (ha : Asc qs) (hb : ∀ x ∈ qs, x < 2 ^ 31) (hq : q ∈ qs) : m_X7_indexOf n w b (nI l) (nI q) = some (nI (ixN qs q)) := by
  obtain ⟨b1, b2⟩ := ixN_mem ha hq
  unfold m_X7_indexOf
  obtain ⟨v, e, rfl⟩ := lp (σ := Unit) (R := Int32) (fun t k _ => m_X7_indexOf_p2 n t w b (nI l) (nI q) (nI k)) (fun _ _ => True) (fun v => v = nI (ixN qs q)) (ixN qs q) (by
    rintro t k ⟨⟩ hk -
    left
    refine ⟨(), ?_, trivial⟩
    have := asc_get ha hk b1
    rw [m_X7_indexOf_p2, h.c, Option.bind_some, k_nodeAt h hl ht h24 (by omega), Option.bind_some, if_neg (fun z => by
      have := (nI_eq (hb _ (getD_mem (show k < qs.length by omega))) (hb _ hq)).mp z
      omega), nI_1]) (by
    rintro t ⟨⟩ -
    exact ⟨_, by rw [m_X7_indexOf_p2, h.c, Option.bind_some, k_nodeAt h hl ht h24 b1, Option.bind_some, b2, if_pos rfl], rfl⟩) (ixN qs q) 0 n () (by omega) (by omega) trivial
  exact e
theorem nds_lt (hw : WF S) {x : Nat} (hx : x ∈ nds S l) : x < 2 ^ 31 := by
  have := node_lt (cdS_12 hw) (((nds_of hw l).2 x).mp hx)
  omega
theorem k_tellChild {i d : Nat} (hn : 60 ≤ n) (h : MoC w b I J A) (hr : Row A S) (hw : WF S) (ht : Tb A 4 5 l (nds S l)) (hl : l < 5) (hi : i < (nds S l).length) (hd : d < 4) :
    ∃ w' I', m_X7_tellChild n w b (nI l) (nI i) (nI d) = some (tell (nds S l) (kidN (cdS S l) ((nds S l).getD i 0) d), w') ∧ MoC w' b I' J A ∧ Iq I I' ∧ Fr w w' b := by
  have hc := cdS_12 hw (l := l)
  have hN := nds_of hw l
  have h24 := nds_len hw l
  have hq := hN.at hi
  obtain ⟨w1, I1, e1, h1, i1, -, q1⟩ := k_child (n := n) (d := d) hn h hr hw hl hq hd
  refine ⟨w1, I1, ?_, h1, i1, q1⟩
  rw [m_X7_tellChild, h.c, Option.bind_some, k_nodeAt h hl ht h24 hi, Option.bind_some, Option.bind_some, e1, Option.bind_some]
  rcases kid_c hc (d := d) hq with ⟨b1, b2⟩ | ⟨b1, b2, b3, b4⟩ | ⟨b1, b2, b3, b4⟩
  · rw [b2]
    rfl
  · have e : kI (kidN (cdS S l) ((nds S l).getD i 0) d) = nI (100000 + mnL ((cdS S l).filter (inQ ((nds S l).getD i 0) d))) := by
      unfold kI
      rw [if_neg (by omega), b3]
    have s : nI (100000 + mnL ((cdS S l).filter (inQ ((nds S l).getD i 0) d))) - 100000 = nI (mnL ((cdS S l).filter (inQ ((nds S l).getD i 0) d))) := by
      rw [show (100000 : Int32) = nI 100000 from rfl, pk_sub (by omega), Nat.add_sub_cancel_left]
    rw [e, if_neg (nI_m1 (by omega)), if_pos (show (100000 : Int32) ≤ _ from nI_le (a := 100000) (by omega) (by omega)), s, m_yOf (by omega) b4, Option.bind_some, m_xOf (by omega) b4, Option.bind_some, b3, tell_pos b4, show (64 : Int32) = nI 64 from rfl, pk_mul, show (1000 : Int32) = nI 1000 from rfl, nI_add, nI_add]
  · have e : kI (kidN (cdS S l) ((nds S l).getD i 0) d) = nI (kidN (cdS S l) ((nds S l).getD i 0) d) := by
      unfold kI
      rw [if_neg (by omega)]
    rw [e, if_neg (nI_m1 (by omega)), if_neg (show ¬ (100000 : Int32) ≤ _ from nI_ge (b := 100000) (by omega) (by decide)), h1.c, Option.bind_some, k_index hn h1 hl ht h24 hN.1 (fun x hx => nds_lt hw hx) ((hN.2 _).mpr b4), Option.bind_some]
    unfold tell
    rw [if_neg (by omega), if_neg (by omega)]
end RQ
