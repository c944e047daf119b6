/-! THE REFERENCE LAYS ITS TABLES -/
theorem esOf_ex (S : Nat → Int32) : ∀ k, k ≤ 24 → ∃ es, EsOf S k es := by
  intro k
  induction k with
  | zero => exact fun _ => ⟨[], List.Pairwise.nil, List.Perm.refl _⟩
  | succ k ih =>
    intro hk
    obtain ⟨es, h3⟩ := ih (by omega)
    by_cases hz : S (5 * k) = 0
    · refine ⟨es, ?_⟩
      unfold EsOf
      rw [idsS_succ, if_neg (fun q => q hz), List.append_nil]
      exact h3
    · have hne : ent S k ∉ es := fun q => by
        obtain ⟨i, i1, i2, i3⟩ := h3.mem.mp q
        unfold ent at i3
        omega
      obtain ⟨m, hm, hl⟩ := pk_least (fun m => es.length ≤ m ∨ ent S k < es.getD m 0) ⟨es.length, Or.inl (Nat.le_refl _)⟩
      have hm2 : m ≤ es.length := Nat.not_lt.mp fun g => hl es.length g (Or.inl (Nat.le_refl _))
      refine ⟨insAt es m (ent S k), insAt_asc h3.1 hm2 (fun i hi => ?_) (fun i hi hi2 => ?_), ?_⟩
      · have g := hl i hi
        have g1 : es.getD i 0 ∈ es := getD_mem (by omega)
        have g2 : es.getD i 0 ≠ ent S k := fun q => hne (q ▸ g1)
        have g3 : ¬ ent S k < es.getD i 0 := fun q => g (Or.inr q)
        omega
      · have g3 : ent S k < es.getD m 0 := hm.resolve_left (by omega)
        rcases Nat.lt_or_ge m i with y | y
        · have := asc_get h3.1 y hi2
          omega
        · have : i = m := by omega
          rw [this]
          exact g3
      · rw [idsS_succ, if_pos hz, List.map_append]
        exact insAt_perm.trans ((List.Perm.cons _ h3.2).trans (List.perm_append_comm (l₁ := [ent S k])))
theorem nd_len {S : Nat → Int32} {l : Nat} {qs : List Nat} (ha : Asc qs) (h : ∀ q ∈ qs, isNode (cdS S l) q) : qs.length ≤ 24 := by
  obtain ⟨es, he⟩ := esOf_ex S 24 (Nat.le_refl _)
  have := node_len (CsOf_srt (l := l) he.1) ha fun q hq => node_mono (fun c hc => (cs_perm he).mem_iff.mpr hc) (h q hq)
  have h1 := CsOf_len (es := es) (l := l)
  have h2 := he.len
  omega
/-- the squares entered so far -/
def ent2 (S : Nat → Int32) (l i j x : Nat) : Prop := x = 0 ∨ ∃ p q, (p < i ∨ p = i ∧ q < j) ∧ q < p ∧ p ∈ onS S l ∧ q ∈ onS S l ∧ codeS S p ≠ codeS S q ∧ x = sq (codeS S p) (spn (codeS S p) (codeS S q))
theorem cdS_mem {S : Nat → Int32} {l i : Nat} (h : i ∈ onS S l) : codeS S i ∈ cdS S l := List.mem_map.mpr ⟨i, h, rfl⟩
theorem ent2_node {S : Nat → Int32} (hw : WF S) {l i j x : Nat} (h : ent2 S l i j x) : isNode (cdS S l) x := by
  rcases h with h | ⟨p, q, -, -, hp, hq, hne, rfl⟩
  · exact Or.inl h
  · exact sq_pair_node (cdS_mem hp) (cdS_mem hq) (cdS_12 hw _ (cdS_mem hp)) (cdS_12 hw _ (cdS_mem hq)) hne
theorem spn_comm (c d : Nat) : spn c d = spn d c := by
  unfold spn
  simp only [eq_comm]
theorem ent2_all {S : Nat → Int32} (hw : WF S) {l x : Nat} (h : isNode (cdS S l) x) : ent2 S l 24 0 x := by
  rcases h with h | ⟨e, c, d, h1, h2, hc, hd, hs, rfl⟩
  · exact Or.inl h
  · obtain ⟨p, hp, rfl⟩ := List.mem_map.mp hc
    obtain ⟨q, hq, rfl⟩ := List.mem_map.mp hd
    have hne : codeS S p ≠ codeS S q := fun y => hs.2 (by rw [y])
    have he := spl_spn h1 h2 hs
    have hpq : p ≠ q := fun y => hne (by rw [y])
    have p24 := (onS_mem.mp hp).1
    have q24 := (onS_mem.mp hq).1
    rcases Nat.lt_or_ge q p with g | g
    · exact Or.inr ⟨p, q, Or.inl p24, g, hp, hq, hne, by rw [he]⟩
    · refine Or.inr ⟨q, p, Or.inl q24, by omega, hq, hp, fun y => hne y.symm, ?_⟩
      rw [spn_comm, he]
      exact sq_cong hs.1
