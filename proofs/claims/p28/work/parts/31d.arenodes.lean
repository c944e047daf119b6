/-! areNodes, from its start to its end -/
theorem cB_two {p : Nat → Bool} {a b n : Nat} (ha : a < n) (hb : b < n) (hne : a ≠ b) (pa : p a = true) (pb : p b = true) : 2 ≤ cB p n := by
  have h1 := cB_one (p := fun i => p i && decide (i ≠ a)) (q := p) (j := a) ha (by simp) pa fun i _ hi => by
    show (p i && decide (i ≠ a)) = p i
    rw [decide_eq_true hi, Bool.and_true]
  have h2 := cB_one (p := fun i => (p i && decide (i ≠ a)) && decide (i ≠ b)) (q := fun i => p i && decide (i ≠ a)) (j := b) hb (by simp) (by rw [pb, decide_eq_true (show b ≠ a from fun z => hne z.symm)]; rfl) fun i _ hi => by
    show ((p i && decide (i ≠ a)) && decide (i ≠ b)) = (p i && decide (i ≠ a))
    rw [decide_eq_true hi, Bool.and_true]
  omega
theorem cB_true : ∀ n, cB (fun _ => true) n = n
  | 0 => rfl
  | n + 1 => by rw [cB_s, cB_true n, if_pos rfl]
theorem filt_le {α : Type} {p q : α → Bool} (h : ∀ x, p x = true → q x = true) : ∀ l : List α, (l.filter p).length ≤ (l.filter q).length
  | [] => Nat.le_refl _
  | x :: l => by
    have ih := filt_le h l
    by_cases hp : p x = true
    · rw [List.filter_cons_of_pos hp, List.filter_cons_of_pos (h x hp), List.length_cons, List.length_cons]
      omega
    · rw [List.filter_cons_of_neg hp]
      by_cases hq : q x = true
      · rw [List.filter_cons_of_pos hq, List.length_cons]
        omega
      · rw [List.filter_cons_of_neg hq]
        exact ih
theorem cd_len (S : Nat → Int32) (l : Nat) : (cdS S l).length ≤ 24 := by
  unfold cdS onS idsS
  rw [List.length_map]
  refine Nat.le_trans (List.length_filter_le _ _) (Nat.le_trans (List.length_filter_le _ _) ?_)
  rw [List.length_range]
  exact Nat.le_refl _
theorem cd_mono (S : Nat → Int32) (l : Nat) : (cdS S (l + 1)).length ≤ (cdS S l).length := by
  unfold cdS onS
  rw [List.length_map, List.length_map]
  exact filt_le (fun x hx => decide_eq_true (by have := of_decide_eq_true hx; omega)) _
theorem ds_le (cs : List Nat) (hc : C12 cs) : dsN cs ≤ cs.length := by
  unfold dsN
  rw [← cB_range]
  have h := cB_img_le (f := fun j => cs.getD j 0) (n := 4096) (p := fun _ => true) (N := cs.length) (fun j hj _ => hc _ (getD_mem hj)) (g := fun c => decide (c ∈ cs)) fun i _ => by
    rw [decide_eq_true_eq]
    constructor
    · intro hm
      obtain ⟨j, j1, j2⟩ := mem_getD hm
      exact ⟨j, j1, rfl, j2⟩
    · rintro ⟨j, j1, -, rfl⟩
      exact getD_mem j1
  rw [cB_true] at h
  exact h
/-- a node that isn't the whole has two quadrants with codes -/
theorem qd_two {cs : List Nat} (hc : C12 cs) {q : Nat} (hq : isNode cs q) (h0 : q ≠ 0) : 2 ≤ qdN cs q := by
  rcases hq with z | ⟨e, c, d, h1, h2, h3, h4, h5, rfl⟩
  · exact absurd z h0
  · have hq : isNode cs (sq c e) := Or.inr ⟨e, c, d, h1, h2, h3, h4, h5, rfl⟩
    have b1 : hB (sq c e) c = true := by rw [sq_hB (by omega)]; exact decide_eq_true rfl
    have b2 : hB (sq c e) d = true := by rw [sq_hB (by omega)]; exact decide_eq_true h5.1.symm
    have i1 := inQ_of hc hq b1
    have i2 := inQ_of hc hq b2
    rw [sq_e (show e ≤ 6 by omega)] at i1 i2
    refine cB_two (a := c / 4 ^ (e - 1) % 4) (b := d / 4 ^ (e - 1) % 4) (Nat.mod_lt _ (by decide)) (Nat.mod_lt _ (by decide)) ?_ ?_ ?_
    · intro z
      have h6 := h5.1
      rw [dv_s h1, dv_s (c := d) h1] at h6
      exact h5.2 (by omega)
    · exact decide_eq_true (kid_none hc hq (Nat.mod_lt _ (by decide)) h3 i1)
    · exact decide_eq_true (kid_none hc hq (Nat.mod_lt _ (by decide)) h4 i2)
theorem ix_ge {qs rs : List Nat} (hq : Asc qs) (hr : Asc rs) (h : ∀ x ∈ qs, x ∈ rs) : ∀ {k : Nat}, k < qs.length → k ≤ ixN rs (qs.getD k 0)
  | 0, _ => Nat.zero_le _
  | k + 1, hk => by
    have ih := ix_ge hq hr h (k := k) (by omega)
    obtain ⟨a1, a2⟩ := ixN_mem hr (h _ (getD_mem (show k < qs.length by omega)))
    obtain ⟨b1, b2⟩ := ixN_mem hr (h _ (getD_mem hk))
    have := ix_lt hr a1 b1 (by rw [a2, b2]; exact asc_get hq (Nat.lt_succ_self k) hk)
    omega
theorem nds_sub {S : Nat → Int32} (hw : WF S) (l : Nat) : ∀ x ∈ nds S (l + 1), x ∈ nds S l := fun x hx => ((nds_of hw l).2 x).mpr (node_mono (fun c hc => cdS_sub hc) (((nds_of hw (l + 1)).2 x).mp hx))
section KN
variable {n h c L : Nat} {w : Wd} {S : Nat → Int32} {P : Nat → Nat → Int32} {B : Nat → Int32}
theorem an_loop (hn : 600 ≤ n) (H : Kc w h S P c L B) {l : Nat} (hl : l < 5) : m_L_areNodes_p107 n n w h (nI l) (nI (nds S l).length) 1 0 0 0 = some 1 := by
  have hw := H.1
  have hc := cdS_12 (l := l) hw
  have hN := nds_of hw l
  have h24 := nds_len hw l
  have hp := (nd_0 hN).1
  obtain ⟨v, e, rfl⟩ := lp (σ := Unit) (R := Int32) (fun t k _ => m_L_areNodes_p107 n t w h (nI l) (nI (nds S l).length) 1 (nI (cB (pcB (cdS S l) (nds S l)) (4 * k))) (nI (cB (ndB (cdS S l) (nds S l)) (4 * k))) (nI k)) (fun _ _ => True) (fun v => v = 1) (nds S l).length (by
    rintro t k ⟨⟩ hk -
    left
    refine ⟨(), ?_, trivial⟩
    have hq := nd_i hN hk
    obtain ⟨m1, m2, m3, m4⟩ := node_m hc hq
    obtain ⟨t1, t2, t3⟩ := two_e m3
    have hx0 := xN_lt m4
    obtain ⟨y1, y2, -⟩ := sq_xy hc hq m4 (hB_self (cs := cdS S l))
    have n0 : m_LX_node n w h (nI l) (nI k) 0 = some (nI (xN ((nds S l).getD k 0 / 8))) := l_node (what := 0) hn H hl hk (by decide)
    have n1 : m_LX_node n w h (nI l) (nI k) 1 = some (nI (yN ((nds S l).getD k 0 / 8))) := l_node (what := 1) hn H hl hk (by decide)
    have n2 : m_LX_node n w h (nI l) (nI k) 2 = some (nI (2 ^ sqE ((nds S l).getD k 0))) := by
      rw [← sz_q (by omega) m2]
      exact l_node (what := 2) hn H hl hk (by decide)
    have n5 : m_LX_node n w h (nI l) (nI k) 5 = some (nI (qdN (cdS S l) ((nds S l).getD k 0))) := l_node (what := 5) hn H hl hk (by decide)
    have r0 : ∀ x, x < 64 → x % 2 ^ sqE ((nds S l).getD k 0) = 0 → remI (nI x) (nI (2 ^ sqE ((nds S l).getD k 0))) = some 0 := fun x hx hm => by
      unfold remI
      rw [if_neg (show ¬ nI (2 ^ sqE ((nds S l).getD k 0)) = 0 from fun z => by
        have := (nI_eq (b := 0) (by omega) (by decide)).mp z
        omega), jrm_nI (by omega) (by omega) (by omega), hm]
      rfl
    have go := an_node hn H hl hk (t := t) (NN := nI (nds S l).length)
    have ix : l ≠ 0 → ∃ j, k ≤ j ∧ j < 24 ∧ m_L_indexOf n w h (nI l - 1) (nI (xN ((nds S l).getD k 0 / 8))) (nI (yN ((nds S l).getD k 0 / 8))) (nI (2 ^ sqE ((nds S l).getD k 0))) = some (nI j) := fun h0 => by
      obtain ⟨l', rfl⟩ : ∃ l', l = l' + 1 := ⟨l - 1, by omega⟩
      have hN' := nds_of hw l'
      obtain ⟨i1, i2⟩ := ixN_mem hN'.1 (nds_sub hw l' _ (getD_mem hk))
      obtain ⟨j, j1, j2, j3⟩ := l_index hn H (show l' < 5 by omega) i1 rfl rfl rfl
      refine ⟨j, Nat.le_trans (ix_ge hN.1 hN'.1 (nds_sub hw l') hk) j1, j2, ?_⟩
      rw [nI_pred, ← j3]
      show _ = m_L_indexOf n w h (nI l') (nI (xN ((nds S l').getD (ixN (nds S l') ((nds S (l' + 1)).getD k 0)) 0 / 8))) (nI (yN ((nds S l').getD (ixN (nds S l') ((nds S (l' + 1)).getD k 0)) 0 / 8))) (m_X3_size (nI ((nds S l').getD (ixN (nds S l') ((nds S (l' + 1)).getD k 0)) 0)))
      rw [i2, sz_q (by omega) m2]
    rw [m_L_areNodes_p107, if_neg (nI_ge hk (by omega)), if_neg (by decide), n0, Option.bind_some, n1, Option.bind_some, n2, Option.bind_some, r0 _ hx0.1 y1, Option.bind_some, if_pos rfl, r0 _ hx0.2 y2, Option.bind_some, if_pos rfl]
    by_cases k0 : k = 0
    · rw [if_pos (show nI k = 0 by rw [k0]; rfl)]
      by_cases l0 : l = 0
      · rw [if_pos (show nI l = 0 by rw [l0]; rfl)]
        exact go
      · obtain ⟨j, j1, j2, j3⟩ := ix l0
        rw [if_neg (show ¬ nI l = 0 from fun z => l0 ((nI_eq (b := 0) (by omega) (by decide)).mp z)), j3, Option.bind_some, if_neg (nI_nlt j1 (by omega))]
        exact go
    · have hq0 : (nds S l).getD k 0 ≠ 0 := by
        have := asc_get hN.1 (show 0 < k by omega) hk
        omega
      have q2 := qd_two hc hq hq0
      have q4 : qdN (cdS S l) ((nds S l).getD k 0) ≤ 4 := cB_le _ 4
      rw [if_neg (show ¬ nI k = 0 from fun z => k0 ((nI_eq (b := 0) (by omega) (by decide)).mp z)), n5, Option.bind_some, if_neg (show ¬ nI (qdN (cdS S l) ((nds S l).getD k 0)) ≤ 1 from nI_ge (a := 1) q2 (by omega))]
      by_cases l0 : l = 0
      · rw [if_pos (show nI l = 0 by rw [l0]; rfl)]
        exact go
      · obtain ⟨j, j1, j2, j3⟩ := ix l0
        rw [if_neg (show ¬ nI l = 0 from fun z => l0 ((nI_eq (b := 0) (by omega) (by decide)).mp z)), j3, Option.bind_some, if_neg (nI_nlt j1 (by omega))]
        exact go) (by
    rintro t ⟨⟩ -
    have v3 : m_LX_level n w h (nI l) 3 = some (nI (cB (pcB (cdS S l) (nds S l)) (4 * (nds S l).length))) := l_level (what := 3) hn H hl (by decide)
    have v4 : m_LX_level n w h (nI l) 4 = some (nI (dsN (cdS S l))) := l_level (what := 4) hn H hl (by decide)
    refine ⟨1, ?_, rfl⟩
    rw [m_L_areNodes_p107, if_pos (Int32.le_refl _), m_L_areNodes_p537, if_neg (by decide), parents hc hN, if_pos (show nI ((nds S l).length - 1) = nI (nds S l).length - 1 from (pk_sub (b := 1) hp).symm), v3, Option.bind_some, if_pos rfl, v4, Option.bind_some, places hc hN, if_pos rfl]) (nds S l).length 0 n () (by omega) (by omega) trivial
  exact e
theorem l_areNodes (hn : 600 ≤ n) (H : Kc w h S P c L B) {l : Nat} (hl : l < 5) : m_L_areNodes n w h (nI l) = some 1 := by
  have hw := H.1
  have hc := cdS_12 (l := l) hw
  have hN := nds_of hw l
  have h24 := nds_len hw l
  have c24 := cd_len S l
  obtain ⟨hp, hz⟩ := nd_0 hN
  have hds := ds_le _ hc
  have hmax : (nds S l).length ≤ max 1 (cdS S l).length := by
    obtain ⟨fo, e0, fc⟩ := H.2.1.fo
    obtain ⟨cs, a1, a2, a3, a4, a5⟩ := fc.lev hw hl
    rw [← a2.length_eq]
    exact node_len a3 a5.1 fun q hq => (a5.2 q).mp hq
  have v1 : m_LX_level n w h (nI l) 1 = some (nI (nds S l).length) := l_level (what := 1) hn H hl (by decide)
  have v0 : m_LX_level n w h (nI l) 0 = some (nI (cdS S l).length) := l_level (what := 0) hn H hl (by decide)
  have v4 : m_LX_level n w h (nI l) 4 = some (nI (dsN (cdS S l))) := l_level (what := 4) hn H hl (by decide)
  have n2 : m_LX_node n w h (nI l) 0 2 = some 64 := by
    have := l_node (id := 0) (what := 2) hn H hl hp (by decide)
    have e : ndV S l 0 2 = 64 := by
      show m_X3_size (nI ((nds S l).getD 0 0)) = 64
      rw [hz]
      decide
    rw [e] at this
    exact this
  have n4 : m_LX_node n w h (nI l) 0 4 = some (nI (cdS S l).length) := by
    have := l_node (id := 0) (what := 4) hn H hl hp (by decide)
    have e : ndV S l 0 4 = nI (cdS S l).length := by
      show nI ((cdS S l).filter (hB ((nds S l).getD 0 0))).length = _
      rw [hz, List.filter_eq_self.mpr fun x hx => hB_0 (hc x hx)]
    rw [e] at this
    exact this
  have e53 : m_L_areNodes_p53 n w h (nI l) (nI (nds S l).length) (nI (cdS S l).length) = some 1 := by
    rw [m_L_areNodes_p53, v4, Option.bind_some, if_neg (nI_nlt hds (by omega))]
    by_cases l0 : l = 0
    · rw [if_pos (show nI l = 0 by rw [l0]; rfl)]
      exact an_loop hn H hl
    · obtain ⟨l', rfl⟩ : ∃ l', l = l' + 1 := ⟨l - 1, by omega⟩
      have hN' := nds_of hw l'
      have c24' := cd_len S l'
      have n24' := nds_len hw l'
      have w0 : m_LX_level n w h (nI l') 0 = some (nI (cdS S l').length) := l_level (what := 0) hn H (by omega) (by decide)
      have w1 : m_LX_level n w h (nI l') 1 = some (nI (nds S l').length) := l_level (what := 1) hn H (by omega) (by decide)
      rw [if_neg (show ¬ nI (l' + 1) = 0 from fun z => l0 ((nI_eq (b := 0) (by omega) (by decide)).mp z)), nI_pred, w0, Option.bind_some, if_neg (nI_nlt (cd_mono S l') (by omega)), w1, Option.bind_some, if_neg (nI_nlt (asc_len hN.1 (nds_sub hw l')) (by omega))]
      exact an_loop hn H hl
  rw [m_L_areNodes, v1, Option.bind_some, v0, Option.bind_some, if_neg (nI_nle hp (by omega)), n2, Option.bind_some, if_pos rfl, n4, Option.bind_some, if_pos rfl]
  by_cases c2 : (cdS S l).length < 2
  · rw [if_pos (show nI (cdS S l).length < 2 from nI_lt (b := 2) c2 (by decide))]
    exact e53
  · rw [if_neg (show ¬ nI (cdS S l).length < 2 from nI_nlt (b := 2) (by omega) (by omega)), if_neg (show ¬ nI (cdS S l).length + 1 ≤ nI (nds S l).length by rw [nI_1]; exact nI_ge (by omega) (by omega))]
    exact e53
end KN
