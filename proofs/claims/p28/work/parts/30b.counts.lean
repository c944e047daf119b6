/-! COUNTS OVER THE TREE: depths, parents, positions -/
theorem cB_tail {p : Nat → Bool} {i : Nat} : ∀ {n : Nat}, i ≤ n → (∀ k, i ≤ k → k < n → p k = false) → cB p n = cB p i
  | 0, h, _ => by rw [Nat.le_zero.mp h]
  | n + 1, h, g => by
    by_cases e : i = n + 1
    · rw [e]
    · rw [cB_s, g n (by omega) (Nat.lt_succ_self n), if_neg (show ¬ false = true by decide), Nat.add_zero]
      exact cB_tail (by omega) fun k h1 h2 => g k h1 (by omega)
theorem last_ex {p : Nat → Bool} : ∀ {n : Nat}, (∃ k, k < n ∧ p k = true) → ∃ k, k < n ∧ p k = true ∧ ∀ j, k < j → j < n → p j = false
  | 0, ⟨k, h, _⟩ => absurd h (Nat.not_lt_zero k)
  | n + 1, ⟨k, h, g⟩ => by
    by_cases e : p n = true
    · exact ⟨n, Nat.lt_succ_self n, e, fun j h1 h2 => by omega⟩
    · have hk : k < n := by
        rcases Nat.lt_or_ge k n with z | z
        · exact z
        · rw [show k = n by omega] at g
          exact absurd g e
      obtain ⟨m, m1, m2, m3⟩ := last_ex (p := p) (n := n) ⟨k, hk, g⟩
      refine ⟨m, by omega, m2, fun j h1 h2 => ?_⟩
      by_cases z : j = n
      · rw [z]
        exact Bool.eq_false_iff.mpr e
      · exact m3 j h1 (by omega)
theorem cB_img {f : Nat → Nat} {n : Nat} {p : Nat → Bool} : ∀ {N : Nat}, (∀ j, j < N → p j = true → f j < n) → (∀ i j, i < N → j < N → p i = true → p j = true → f i = f j → i = j) → ∀ {g : Nat → Bool}, (∀ i, i < n → (g i = true ↔ ∃ j, j < N ∧ p j = true ∧ f j = i)) → cB g n = cB p N
  | 0, _, _, g, h => by
    have hz : cB g n = cB g 0 := cB_tail (Nat.zero_le n) fun k _ hk => Bool.eq_false_iff.mpr fun z => by
      obtain ⟨j, hj, -⟩ := (h k hk).mp z
      exact absurd hj (Nat.not_lt_zero j)
    rw [hz]
    rfl
  | N + 1, h1, h2, g, h => by
    rw [cB_s]
    by_cases e : p N = true
    · rw [if_pos e]
      have hf := h1 N (Nat.lt_succ_self N) e
      have ih := cB_img (N := N) (fun j hj => h1 j (by omega)) (fun i j hi hj => h2 i j (by omega) (by omega)) (g := fun i => g i && decide (i ≠ f N)) fun i hi => by
        rw [Bool.and_eq_true, decide_eq_true_eq, h i hi]
        constructor
        · rintro ⟨⟨j, a, b, c⟩, d⟩
          refine ⟨j, ?_, b, c⟩
          rcases Nat.lt_or_ge j N with z | z
          · exact z
          · rw [show j = N by omega] at c
            exact absurd c.symm d
        · rintro ⟨j, a, b, c⟩
          refine ⟨⟨j, by omega, b, c⟩, fun z => ?_⟩
          have := h2 j N (by omega) (Nat.lt_succ_self N) b e (by rw [c, z])
          omega
      rw [← ih]
      refine cB_one (j := f N) hf ?_ ((h (f N) hf).mpr ⟨N, Nat.lt_succ_self N, e, rfl⟩) fun i _ hne => ?_
      · simp
      · show (g i && decide (i ≠ f N)) = g i
        rw [decide_eq_true hne, Bool.and_true]
    · rw [if_neg e, Nat.add_zero]
      refine cB_img (N := N) (fun j hj => h1 j (by omega)) (fun i j hi hj => h2 i j (by omega) (by omega)) fun i hi => ?_
      rw [h i hi]
      constructor
      · rintro ⟨j, a, b, c⟩
        refine ⟨j, ?_, b, c⟩
        rcases Nat.lt_or_ge j N with z | z
        · exact z
        · rw [show j = N by omega] at b
          exact absurd b e
      · rintro ⟨j, a, b, c⟩
        exact ⟨j, by omega, b, c⟩
theorem cB_img_le {f : Nat → Nat} {n : Nat} {p : Nat → Bool} : ∀ {N : Nat}, (∀ j, j < N → p j = true → f j < n) → ∀ {g : Nat → Bool}, (∀ i, i < n → (g i = true ↔ ∃ j, j < N ∧ p j = true ∧ f j = i)) → cB g n ≤ cB p N
  | 0, _, g, h => by
    have hz : cB g n = cB g 0 := cB_tail (Nat.zero_le n) fun k _ hk => Bool.eq_false_iff.mpr fun z => by
      obtain ⟨j, hj, -⟩ := (h k hk).mp z
      exact absurd hj (Nat.not_lt_zero j)
    rw [hz]
    exact Nat.le_refl _
  | N + 1, h1, g, h => by
    rw [cB_s]
    by_cases e : p N = true
    · rw [if_pos e]
      have hf := h1 N (Nat.lt_succ_self N) e
      by_cases d : ∃ j, j < N ∧ p j = true ∧ f j = f N
      · have ih := cB_img_le (N := N) (fun j hj => h1 j (by omega)) (g := g) fun i hi => by
          rw [h i hi]
          constructor
          · rintro ⟨j, a, b, c⟩
            rcases Nat.lt_or_ge j N with z | z
            · exact ⟨j, z, b, c⟩
            · obtain ⟨j2, x1, x2, x3⟩ := d
              exact ⟨j2, x1, x2, by rw [x3, ← c, show j = N by omega]⟩
          · rintro ⟨j, a, b, c⟩
            exact ⟨j, by omega, b, c⟩
        omega
      · have ih := cB_img_le (N := N) (fun j hj => h1 j (by omega)) (g := fun i => g i && decide (i ≠ f N)) fun i hi => by
          rw [Bool.and_eq_true, decide_eq_true_eq, h i hi]
          constructor
          · rintro ⟨⟨j, a, b, c⟩, x⟩
            refine ⟨j, ?_, b, c⟩
            rcases Nat.lt_or_ge j N with z | z
            · exact z
            · rw [show j = N by omega] at c
              exact absurd c.symm x
          · rintro ⟨j, a, b, c⟩
            exact ⟨⟨j, by omega, b, c⟩, fun z => d ⟨j, a, b, by rw [c, z]⟩⟩
        have := cB_one (p := fun i => g i && decide (i ≠ f N)) (q := g) (j := f N) hf (by simp) ((h (f N) hf).mpr ⟨N, Nat.lt_succ_self N, e, rfl⟩) fun i _ hne => by
          show (g i && decide (i ≠ f N)) = g i
          rw [decide_eq_true hne, Bool.and_true]
        omega
    · rw [if_neg e, Nat.add_zero]
      refine cB_img_le (N := N) (fun j hj => h1 j (by omega)) fun i hi => ?_
      rw [h i hi]
      constructor
      · rintro ⟨j, a, b, c⟩
        refine ⟨j, ?_, b, c⟩
        rcases Nat.lt_or_ge j N with z | z
        · exact z
        · rw [show j = N by omega] at b
          exact absurd b e
      · rintro ⟨j, a, b, c⟩
        exact ⟨j, by omega, b, c⟩
theorem cB_img_lt {f : Nat → Nat} {n N i0 j0 : Nat} {p : Nat → Bool} (h1 : ∀ j, j < N → p j = true → f j < n) {g : Nat → Bool} (h : ∀ i, i < n → (g i = true ↔ ∃ j, j < N ∧ p j = true ∧ f j = i)) (hi : i0 < N) (hj : j0 < N) (hne : i0 ≠ j0) (pi : p i0 = true) (pj : p j0 = true) (he : f i0 = f j0) : cB g n < cB p N := by
  have k1 := cB_img_le (N := N) (p := fun k => p k && decide (k ≠ j0)) (f := f) (n := n) (fun j hj hp => h1 j hj (by rw [Bool.and_eq_true] at hp; exact hp.1)) (g := g) fun i hi2 => by
    rw [h i hi2]
    constructor
    · rintro ⟨j, a, b, c⟩
      by_cases z : j = j0
      · exact ⟨i0, hi, by rw [pi, decide_eq_true hne]; rfl, by rw [he, ← z, c]⟩
      · exact ⟨j, a, by rw [b, decide_eq_true z]; rfl, c⟩
    · rintro ⟨j, a, b, c⟩
      rw [Bool.and_eq_true] at b
      exact ⟨j, a, b.1, c⟩
  have k2 := cB_one (p := fun k => p k && decide (k ≠ j0)) (q := p) (j := j0) hj (by simp) pj fun i _ hne => by
    show (p i && decide (i ≠ j0)) = p i
    rw [decide_eq_true hne, Bool.and_true]
  omega
theorem nd_i {cs qs : List Nat} (hN : NodesOf cs qs) {i : Nat} (hi : i < qs.length) : isNode cs (qs.getD i 0) := (hN.2 _).mp (getD_mem hi)
theorem ix_lt {qs : List Nat} (ha : Asc qs) {i j : Nat} (hi : i < qs.length) (hj : j < qs.length) (h : qs.getD i 0 < qs.getD j 0) : i < j := by
  rcases Nat.lt_or_ge i j with z | z
  · exact z
  · by_cases e : i = j
    · rw [e] at h
      exact absurd h (Nat.lt_irrefl _)
    · have := asc_get ha (show j < i by omega) hi
      omega
theorem sup_irr (q : Nat) : sup q q = false := by
  unfold sup
  rw [decide_eq_false (Nat.lt_irrefl _)]
  rfl
theorem dep_sup {cs qs : List Nat} (hc : C12 cs) (hN : NodesOf cs qs) {i : Nat} (hi : i < qs.length) : depN qs i = cB (fun k => sup (qs.getD k 0) (qs.getD i 0)) qs.length := by
  unfold depN
  have ht : cB (fun k => sup (qs.getD k 0) (qs.getD i 0)) qs.length = cB (fun k => sup (qs.getD k 0) (qs.getD i 0)) i := cB_tail (Nat.le_of_lt hi) fun k h1 h2 => Bool.eq_false_iff.mpr fun z => by
    have := ix_lt hN.1 h2 hi (sup_lt hc (nd_i hN h2) (nd_i hN hi) z)
    omega
  rw [ht]
  refine cB_cong fun k hk => ?_
  have hk2 := Nat.lt_trans hk hi
  cases h : hB (qs.getD k 0) (qs.getD i 0 / 8) with
  | true => exact (lt_sup hc (nd_i hN hk2) (nd_i hN hi) (asc_get hN.1 hk hi) h).symm
  | false =>
    unfold sup
    rw [h, Bool.and_false]
/-- nothing lies between a node and its child -/
theorem kid_gap {cs : List Nat} (hc : C12 cs) {q t d : Nat} (hq : isNode cs q) (ht : isNode cs t) (hd : d < 4) (hk : kidN cs q d < 40000) (h1 : sup t (kidN cs q d) = true) (hlt : sqE t < sqE q) : False := by
  obtain ⟨k1, k2, k3⟩ := kid_in hc hq hd hk
  obtain ⟨a1, a2⟩ := sup_iff.mp h1
  obtain ⟨b1, b2⟩ := sup_iff.mp k3
  have n1 := nest hc ht (Nat.le_of_lt hlt) b2 a2
  have e1 : t / 8 / 4 ^ (sqE q - 1) = kidN cs q d / 8 / 4 ^ (sqE q - 1) := (dv_up (hB_iff.mp a2) (show sqE t ≤ sqE q - 1 by omega)).symm
  have n2 : inQ q d (t / 8) = true := by
    rw [inQ_iff, e1]
    exact inQ_iff.mp k2
  obtain ⟨-, -, z, -⟩ := kid_sup hc hq ht hd hlt n2
  omega
theorem kid_dep {cs qs : List Nat} (hc : C12 cs) (hN : NodesOf cs qs) {k d : Nat} (hk : k < qs.length) (hd : d < 4) (hn : kidN cs (qs.getD k 0) d < 40000) : depN qs (ixN qs (kidN cs (qs.getD k 0) d)) = depN qs k + 1 := by
  have hq := nd_i hN hk
  obtain ⟨k1, k2, k3⟩ := kid_in hc hq hd hn
  obtain ⟨x1, x2⟩ := ixN_mem hN.1 ((hN.2 _).mpr k1)
  rw [dep_sup hc hN x1, dep_sup hc hN hk, x2]
  refine cB_one (j := k) hk (sup_irr _) k3 fun i hi hne => ?_
  have ht := nd_i hN hi
  rw [Bool.eq_iff_iff]
  constructor
  · intro h
    exact sup_trans hc hq h k3
  · intro h
    obtain ⟨a1, a2⟩ := sup_iff.mp h
    obtain ⟨b1, b2⟩ := sup_iff.mp k3
    rcases Nat.lt_trichotomy (sqE (qs.getD i 0)) (sqE (qs.getD k 0)) with z | z | z
    · exact (kid_gap hc hq ht hd hn h z).elim
    · have := node_eq hc hq ht z.symm (nest hc ht (Nat.le_of_eq z) b2 a2)
      have e1 := ixN_at hN.1 hk
      have e2 := ixN_at hN.1 hi
      rw [this, e2] at e1
      exact absurd e1 hne
    · exact sup_iff.mpr ⟨z, nest hc hq (Nat.le_of_lt z) a2 b2⟩
theorem kid_un {cs qs : List Nat} (hc : C12 cs) (hN : NodesOf cs qs) {k k' d d' : Nat} (hk : k < qs.length) (hk' : k' < qs.length) (hd : d < 4) (hd' : d' < 4) (hn : kidN cs (qs.getD k 0) d < 40000) (he : kidN cs (qs.getD k 0) d = kidN cs (qs.getD k' 0) d') : k = k' ∧ d = d' := by
  have hq := nd_i hN hk
  have hq' := nd_i hN hk'
  have hn' : kidN cs (qs.getD k' 0) d' < 40000 := by rw [← he]; exact hn
  obtain ⟨-, k2, k3⟩ := kid_in hc hq hd hn
  obtain ⟨-, l2, l3⟩ := kid_in hc hq' hd' hn'
  rcases Nat.lt_trichotomy (sqE (qs.getD k 0)) (sqE (qs.getD k' 0)) with z | z | z
  · rw [he] at k3
    exact (kid_gap hc hq' hq hd' hn' k3 z).elim
  · rw [he] at k2 k3
    have e := node_eq hc hq hq' z (nest hc hq' (Nat.le_of_eq z.symm) (sup_iff.mp k3).2 (sup_iff.mp l3).2)
    have e1 := ixN_at hN.1 hk
    rw [e, ixN_at hN.1 hk'] at e1
    subst e1
    exact ⟨rfl, (inQ_un hc hq hd k2).2.trans (inQ_un hc hq hd' l2).2.symm⟩
  · rw [← he] at l3
    exact (kid_gap hc hq hq' hd hn l3 z).elim
theorem hB_0 {x : Nat} (h : x < 4096) : hB 0 x = true := by
  rw [hB_iff]
  show x / 4 ^ 6 = 0 / 8 / 4 ^ 6
  have : (4 : Nat) ^ 6 = 4096 := by decide
  rw [this]
  omega
theorem nd_0 {cs qs : List Nat} (hN : NodesOf cs qs) : 0 < qs.length ∧ qs.getD 0 0 = 0 := by
  have h0 : 0 ∈ qs := (hN.2 0).mpr (Or.inl rfl)
  have h1 := List.length_pos_of_mem h0
  obtain ⟨x1, x2⟩ := ixN_mem hN.1 h0
  refine ⟨h1, ?_⟩
  by_cases e : ixN qs 0 = 0
  · rw [e] at x2
    exact x2
  · have := asc_get hN.1 (show 0 < ixN qs 0 by omega) x1
    omega
theorem kid_holds {cs : List Nat} (hc : C12 cs) {q d x : Nat} (hq : isNode cs q) (hd : d < 4) (hk : kidN cs q d < 40000) (hx : x ∈ cs) (hi : inQ q d x = true) : hB (kidN cs q d) x = true := by
  rcases kid_c hc hq hd with ⟨-, h⟩ | ⟨-, -, h, -⟩ | ⟨h1, h2, -, h4⟩
  · omega
  · omega
  · obtain ⟨s, s1, s2, s3, s4, s5, -, s7, -⟩ := kid_node hc hq hd h1 h2
    have m1 : x ∈ cs.filter (inQ q d) := List.mem_filter.mpr ⟨hx, hi⟩
    have hq6 := sqE_le q
    rw [s3, sq_hB (by omega), decide_eq_true_eq]
    exact mid_div s4.1 (mnL_le m1) (mxL_ge m1)
theorem kid_ex {cs qs : List Nat} (hc : C12 cs) (hN : NodesOf cs qs) {i : Nat} (h0 : 0 < i) (hi : i < qs.length) : ∃ k d, k < qs.length ∧ d < 4 ∧ kidN cs (qs.getD k 0) d = qs.getD i 0 := by
  have hr := nd_i hN hi
  obtain ⟨z1, z2⟩ := nd_0 hN
  obtain ⟨r1, r2, r3, r4⟩ := node_m hc hr
  have hr0 : 0 < qs.getD i 0 := by
    have := asc_get hN.1 h0 hi
    omega
  have s0 : sup (qs.getD 0 0) (qs.getD i 0) = true := by
    rw [z2]
    exact lt_sup hc (Or.inl rfl) hr hr0 (hB_0 r4)
  obtain ⟨k, h1, h2, h3⟩ := last_ex (p := fun k => sup (qs.getD k 0) (qs.getD i 0)) ⟨0, z1, s0⟩
  have hq := nd_i hN h1
  obtain ⟨a1, a2⟩ := sup_iff.mp h2
  have b1 := inQ_of hc hq a2
  have hd : qs.getD i 0 / 8 / 4 ^ (sqE (qs.getD k 0) - 1) % 4 < 4 := Nat.mod_lt _ (by decide)
  obtain ⟨c1, c2, c3, c4⟩ := kid_sup hc hq hr hd a1 b1
  refine ⟨k, _, h1, hd, ?_⟩
  rcases Nat.lt_or_ge (sqE (qs.getD i 0)) (sqE (kidN cs (qs.getD k 0) (qs.getD i 0 / 8 / 4 ^ (sqE (qs.getD k 0) - 1) % 4))) with z | z
  · obtain ⟨x1, x2⟩ := ixN_mem hN.1 ((hN.2 _).mpr c1)
    have y1 : sup (qs.getD (ixN qs (kidN cs (qs.getD k 0) (qs.getD i 0 / 8 / 4 ^ (sqE (qs.getD k 0) - 1) % 4))) 0) (qs.getD i 0) = true := by
      rw [x2]
      exact sup_iff.mpr ⟨z, c4⟩
    have y2 : k < ixN qs (kidN cs (qs.getD k 0) (qs.getD i 0 / 8 / 4 ^ (sqE (qs.getD k 0) - 1) % 4)) := by
      refine ix_lt hN.1 h1 x1 ?_
      rw [x2]
      exact sup_lt hc hq c1 (kid_in hc hq hd c2).2.2
    rw [h3 _ y2 x1] at y1
    cases y1
  · exact node_eq hc c1 hr (by omega) c4
theorem pos_ex {cs qs : List Nat} (hc : C12 cs) (hN : NodesOf cs qs) {c : Nat} (h : c ∈ cs) : ∃ k d, k < qs.length ∧ d < 4 ∧ kidN cs (qs.getD k 0) d = 100000 + c := by
  obtain ⟨z1, z2⟩ := nd_0 hN
  have s0 : hB (qs.getD 0 0) c = true := by rw [z2]; exact hB_0 (hc c h)
  obtain ⟨k, h1, h2, h3⟩ := last_ex (p := fun k => hB (qs.getD k 0) c) ⟨0, z1, s0⟩
  have hq := nd_i hN h1
  have b1 := inQ_of hc hq h2
  have hd : c / 4 ^ (sqE (qs.getD k 0) - 1) % 4 < 4 := Nat.mod_lt _ (by decide)
  refine ⟨k, _, h1, hd, ?_⟩
  rcases Nat.lt_or_ge (kidN cs (qs.getD k 0) (c / 4 ^ (sqE (qs.getD k 0) - 1) % 4)) 40000 with z | z
  · obtain ⟨k1, k2, k3⟩ := kid_in hc hq hd z
    obtain ⟨x1, x2⟩ := ixN_mem hN.1 ((hN.2 _).mpr k1)
    have y1 : hB (qs.getD (ixN qs (kidN cs (qs.getD k 0) (c / 4 ^ (sqE (qs.getD k 0) - 1) % 4))) 0) c = true := by
      rw [x2]
      exact kid_holds hc hq hd z h b1
    have y2 : k < ixN qs (kidN cs (qs.getD k 0) (c / 4 ^ (sqE (qs.getD k 0) - 1) % 4)) := by
      refine ix_lt hN.1 h1 x1 ?_
      rw [x2]
      exact sup_lt hc hq k1 k3
    rw [h3 _ y2 x1] at y1
    cases y1
  · obtain ⟨c', p1, p2, p3, p4⟩ := kid_pos hc hq hd z (kid_none hc hq hd h b1)
    rw [p2, p4 c h b1]
theorem pos_un {cs qs : List Nat} (hc : C12 cs) (hN : NodesOf cs qs) {k k' d d' : Nat} (hk : k < qs.length) (hk' : k' < qs.length) (hd : d < 4) (hd' : d' < 4) (h1 : 40000 ≤ kidN cs (qs.getD k 0) d) (h2 : kidN cs (qs.getD k 0) d ≠ 200000) (he : kidN cs (qs.getD k 0) d = kidN cs (qs.getD k' 0) d') : k = k' ∧ d = d' := by
  have hq := nd_i hN hk
  have hq' := nd_i hN hk'
  obtain ⟨c, p1, p2, p3, p4⟩ := kid_pos hc hq hd h1 h2
  obtain ⟨c', p1', p2', p3', p4'⟩ := kid_pos hc hq' hd' (by rw [← he]; exact h1) (by rw [← he]; exact h2)
  have ec : c = c' := by omega
  subst ec
  have key : ∀ q q' d', isNode cs q → isNode cs q' → d' < 4 → hB q c = true → inQ q' d' c = true → (∀ x, x ∈ cs → inQ q' d' x = true → x = c) → sqE q < sqE q' → False := by
    intro q q' d' hq hq' hd' g1 g2 g3 hlt
    have n1 := nest hc hq (Nat.le_of_lt hlt) (inQ_un hc hq' hd' g2).1 g1
    have n2 : inQ q' d' (q / 8) = true := by
      rw [inQ_iff, ← dv_up (hB_iff.mp g1) (show sqE q ≤ sqE q' - 1 by omega)]
      exact inQ_iff.mp g2
    obtain ⟨x, y, x1, x2, x3, x4, x5, -⟩ := sub_codes hc hq hlt (sqE_le q') n2
    exact x3.2 (by rw [g3 x x1 x4, g3 y x2 x5])
  rcases Nat.lt_trichotomy (sqE (qs.getD k 0)) (sqE (qs.getD k' 0)) with z | z | z
  · exact (key _ _ _ hq hq' hd' (inQ_un hc hq hd p3).1 p3' p4' z).elim
  · have e := node_eq hc hq hq' z (nest hc hq' (Nat.le_of_eq z.symm) (inQ_un hc hq hd p3).1 (inQ_un hc hq' hd' p3').1)
    have e1 := ixN_at hN.1 hk
    rw [e, ixN_at hN.1 hk'] at e1
    subst e1
    exact ⟨rfl, (inQ_un hc hq hd p3).2.trans (inQ_un hc hq hd' p3').2.symm⟩
  · exact (key _ _ _ hq' hq hd (inQ_un hc hq' hd' p3').1 p3 p4 z).elim
/-- the number of children that are nodes, and of those that are positions -/
def ndB (cs qs : List Nat) (k : Nat) : Bool := decide (kidN cs (qs.getD (k / 4) 0) (k % 4) < 40000)
theorem cB_pos : ∀ {n : Nat}, 0 < n → cB (fun i => decide (i ≠ 0)) n = n - 1
  | 1, _ => rfl
  | n + 2, _ => by
    rw [cB_s, cB_pos (Nat.succ_pos n), if_pos (decide_eq_true (Nat.succ_ne_zero n))]
    omega
theorem parents {cs qs : List Nat} (hc : C12 cs) (hN : NodesOf cs qs) : cB (ndB cs qs) (4 * qs.length) = qs.length - 1 := by
  rw [← cB_pos (nd_0 hN).1]
  refine (cB_img (f := fun k => ixN qs (kidN cs (qs.getD (k / 4) 0) (k % 4))) (fun j hj hp => ?_) (fun i j hi hj pi pj he => ?_) fun i hi => ?_).symm
  · have hn : kidN cs (qs.getD (j / 4) 0) (j % 4) < 40000 := of_decide_eq_true hp
    exact (ixN_mem hN.1 ((hN.2 _).mpr (kid_in hc (nd_i hN (by omega)) (by omega) hn).1)).1
  · have hi2 : kidN cs (qs.getD (i / 4) 0) (i % 4) < 40000 := of_decide_eq_true pi
    have hj2 : kidN cs (qs.getD (j / 4) 0) (j % 4) < 40000 := of_decide_eq_true pj
    have x1 := (ixN_mem hN.1 ((hN.2 _).mpr (kid_in hc (nd_i hN (show i / 4 < qs.length by omega)) (by omega) hi2).1)).2
    have x2 := (ixN_mem hN.1 ((hN.2 _).mpr (kid_in hc (nd_i hN (show j / 4 < qs.length by omega)) (by omega) hj2).1)).2
    have he2 : ixN qs (kidN cs (qs.getD (i / 4) 0) (i % 4)) = ixN qs (kidN cs (qs.getD (j / 4) 0) (j % 4)) := he
    rw [he2, x2] at x1
    obtain ⟨a, b⟩ := kid_un hc hN (show i / 4 < qs.length by omega) (show j / 4 < qs.length by omega) (by omega) (by omega) hi2 x1.symm
    omega
  · rw [decide_eq_true_eq]
    constructor
    · intro h
      obtain ⟨k, d, h1, h2, h3⟩ := kid_ex hc hN (Nat.pos_of_ne_zero h) hi
      have e1 : (4 * k + d) / 4 = k := by omega
      have e2 : (4 * k + d) % 4 = d := by omega
      refine ⟨4 * k + d, by omega, ?_, ?_⟩
      · unfold ndB
        rw [e1, e2, h3]
        exact decide_eq_true (node_lt hc (nd_i hN hi))
      · show ixN qs (kidN cs (qs.getD ((4 * k + d) / 4) 0) ((4 * k + d) % 4)) = i
        rw [e1, e2, h3]
        exact ixN_at hN.1 hi
    · rintro ⟨j, h1, h2, h3⟩ z
      have hn : kidN cs (qs.getD (j / 4) 0) (j % 4) < 40000 := of_decide_eq_true h2
      have hq := nd_i hN (show j / 4 < qs.length by omega)
      obtain ⟨k1, k2, k3⟩ := kid_in hc hq (show j % 4 < 4 by omega) hn
      have x1 := (ixN_mem hN.1 ((hN.2 _).mpr k1)).2
      have h3' : ixN qs (kidN cs (qs.getD (j / 4) 0) (j % 4)) = i := h3
      rw [h3', z, (nd_0 hN).2] at x1
      have := sup_lt hc hq k1 k3
      omega
theorem places {cs qs : List Nat} (hc : C12 cs) (hN : NodesOf cs qs) : cB (pcB cs qs) (4 * qs.length) = dsN cs := by
  unfold dsN
  rw [← cB_range]
  have hp : ∀ j, pcB cs qs j = true → 40000 ≤ kidN cs (qs.getD (j / 4) 0) (j % 4) ∧ kidN cs (qs.getD (j / 4) 0) (j % 4) ≠ 200000 := fun j h => by
    unfold pcB at h
    rw [Bool.and_eq_true, decide_eq_true_eq, decide_eq_true_eq] at h
    exact ⟨by omega, h.2⟩
  refine (cB_img (f := fun k => kidN cs (qs.getD (k / 4) 0) (k % 4) - 100000) (fun j hj hq => ?_) (fun i j hi hj pi pj he => ?_) fun i hi => ?_).symm
  · obtain ⟨c, c1, c2, -⟩ := kid_pos hc (nd_i hN (show j / 4 < qs.length by omega)) (show j % 4 < 4 by omega) (hp j hq).1 (hp j hq).2
    show kidN cs (qs.getD (j / 4) 0) (j % 4) - 100000 < 4096
    have := hc c c1
    omega
  · obtain ⟨c, c1, c2, -⟩ := kid_pos hc (nd_i hN (show i / 4 < qs.length by omega)) (show i % 4 < 4 by omega) (hp i pi).1 (hp i pi).2
    obtain ⟨c', c1', c2', -⟩ := kid_pos hc (nd_i hN (show j / 4 < qs.length by omega)) (show j % 4 < 4 by omega) (hp j pj).1 (hp j pj).2
    have he2 : kidN cs (qs.getD (i / 4) 0) (i % 4) - 100000 = kidN cs (qs.getD (j / 4) 0) (j % 4) - 100000 := he
    obtain ⟨a, b⟩ := pos_un hc hN (show i / 4 < qs.length by omega) (show j / 4 < qs.length by omega) (by omega) (by omega) (hp i pi).1 (hp i pi).2 (show kidN cs (qs.getD (i / 4) 0) (i % 4) = kidN cs (qs.getD (j / 4) 0) (j % 4) by omega)
    omega
  · rw [decide_eq_true_eq]
    constructor
    · intro h
      obtain ⟨k, d, h1, h2, h3⟩ := pos_ex hc hN h
      have e1 : (4 * k + d) / 4 = k := by omega
      have e2 : (4 * k + d) % 4 = d := by omega
      refine ⟨4 * k + d, by omega, ?_, ?_⟩
      · unfold pcB
        rw [e1, e2, h3, decide_eq_true (show 100000 ≤ 100000 + i by omega), decide_eq_true (show 100000 + i ≠ 200000 by omega)]
        rfl
      · show kidN cs (qs.getD ((4 * k + d) / 4) 0) ((4 * k + d) % 4) - 100000 = i
        rw [e1, e2, h3]
        omega
    · rintro ⟨j, h1, h2, h3⟩
      obtain ⟨c, c1, c2, -⟩ := kid_pos hc (nd_i hN (show j / 4 < qs.length by omega)) (show j % 4 < 4 by omega) (hp j h2).1 (hp j h2).2
      have h3' : kidN cs (qs.getD (j / 4) 0) (j % 4) - 100000 = i := h3
      rw [show i = c by omega]
      exact c1
