/-! THE REFERENCE ENTERS A SQUARE -/
def Tb (A : Rw) (r c l : Nat) (qs : List Nat) : Prop := A c l = nI qs.length ∧ ∀ i, i < qs.length → A r (32 * l + i) = nI (qs.getD i 0)
theorem e32 (l k : Nat) : (32 : Int32) * nI l + nI k = nI (32 * l + k) := by
  rw [show (32 : Int32) = nI 32 from rfl, pk_mul, nI_add]
/-- what entering leaves alone -/
def Oth (A A' : Rw) (l : Nat) : Prop := (∀ j i, j ≠ 4 → j ≠ 5 → A' j i = A j i) ∧ (∀ i, i < 32 * l ∨ 32 * l + 32 ≤ i → A' 4 i = A 4 i) ∧ ∀ m, m ≠ l → A' 5 m = A 5 m
theorem Oth.trans {A B C : Rw} {l : Nat} (h : Oth A B l) (g : Oth B C l) : Oth A C l := ⟨fun j i a b => (g.1 j i a b).trans (h.1 j i a b), fun i a => (g.2.1 i a).trans (h.2.1 i a), fun m a => (g.2.2 m a).trans (h.2.2 m a)⟩
theorem m_e95 {n : Nat} {w : Wd} {b l k q : Nat} {I : Nat → Int32} {J : Nat → Int64} {A B : Rw} {es : List Nat} (h : MoC w b I J A) (hl : l < 5) (hlen : es.length < 24) (ha : Asc es) (hk : k ≤ es.length) (h5 : A 5 l = nI es.length) (g2 : ∀ i, i < k → A 4 (32 * l + i) = nI (es.getD i 0)) (g3 : ∀ i, k < i → i ≤ es.length → A 4 (32 * l + i) = nI (es.getD (i - 1) 0)) (g4 : ∀ i, k ≤ i → i < es.length → q < es.getD i 0) (g5 : ∀ i, i < k → es.getD i 0 < q) (ho : Oth B A l) :
    ∃ w', m_X7_enters_p95 n w b (nI l) (nI q) (nI k) = some w' ∧ (∃ A' es', MoC w' b I J A' ∧ Tb A' 4 5 l es' ∧ Asc es' ∧ (∀ x, x ∈ es' ↔ x = q ∨ x ∈ es) ∧ Oth B A' l) ∧ Fr w w' b := by
  obtain ⟨w1, e1, h1, q1⟩ := h.w7 (nI q) (k := 32 * l + k) (by omega)
  obtain ⟨w2, e2, h2, q2⟩ := h1.w8 (nI (es.length + 1)) (k := l) hl
  refine ⟨w2, ?_, ⟨_, insAt es k q, h2, ⟨by rw [setF_self, insAt_len], fun i hi => ?_⟩, insAt_asc ha hk g5 g4, fun x => by rw [insAt_perm.mem_iff, List.mem_cons], ho.trans ⟨fun j i a b => by rw [setF_row b, setF_row a], fun i hi => by rw [setF_row (by decide), setF_col (by omega)], fun m hm => by rw [setF_col hm, setF_row (by decide)]⟩⟩, fun x hx => (q2 x hx).trans (q1 x hx)⟩
  · have h5' : setF A 4 (32 * l + k) (nI q) 5 l = nI es.length := by rw [setF_row (by decide)]; exact h5
    rw [m_X7_enters_p95, h.g7, Option.bind_some, e32, e1, Option.bind_some, h1.g8, Option.bind_some, h1.r8 hl, Option.bind_some, h5', nI_1, e2, Option.bind_some]
  · rw [insAt_len] at hi
    rw [setF_row (by decide), insAt_getD hk]
    by_cases c : i < k
    · rw [if_pos c, setF_col (by omega), g2 i c]
    · rw [if_neg c]
      by_cases e : i = k
      · subst e
        rw [if_pos rfl, setF_self]
      · rw [if_neg e, setF_col (by omega), g3 i (by omega) (by omega)]
theorem m_enters {n : Nat} (hn : 60 ≤ n) {w : Wd} {b l q : Nat} {I : Nat → Int32} {J : Nat → Int64} {A : Rw} {es : List Nat} (h : MoC w b I J A) (hl : l < 5) (ht : Tb A 4 5 l es) (hlen : es.length < 24 ∨ q ∈ es ∧ es.length ≤ 24) (ha : Asc es) (hq : q < 2 ^ 31) (hb : ∀ x ∈ es, x < 2 ^ 31) :
    ∃ w', m_X7_enters n w b (nI l) (nI q) = some w' ∧ (∃ A' es', MoC w' b I J A' ∧ Tb A' 4 5 l es' ∧ Asc es' ∧ (∀ x, x ∈ es' ↔ x = q ∨ x ∈ es) ∧ Oth A A' l) ∧ Fr w w' b := by
  have h24 : es.length ≤ 24 := by omega
  unfold m_X7_enters
  rw [h.g8, Option.bind_some, h.r8 hl, Option.bind_some, ht.1]
  refine lp (σ := Unit) (fun t i _ => m_X7_enters_p10 n t w b (nI l) (nI q) (nI es.length) (nI i)) (fun i _ => ∀ j, j < i → es.getD j 0 ≠ q) _ es.length ?_ ?_ es.length 0 n () (by omega) (by omega) (fun j hj => absurd hj (Nat.not_lt_zero _))
  · rintro t i ⟨⟩ hi hI
    rw [m_X7_enters_p10, h.g8, Option.bind_some, h.r8 hl, Option.bind_some, ht.1, if_neg (nI_ge hi (by omega)), h.g7, Option.bind_some, e32, h.r7 (by omega), Option.bind_some, ht.2 i hi]
    by_cases c : es.getD i 0 = q
    · right
      refine ⟨w, by rw [if_pos (by rw [c])], ⟨A, es, h, ht, ha, fun x => ⟨fun y => Or.inr y, fun y => y.elim (fun z => by rw [z, ← c]; exact getD_mem hi) id⟩, fun _ _ _ _ => rfl, fun _ _ => rfl, fun _ _ => rfl⟩, fun _ _ => rfl⟩
    · left
      refine ⟨(), by rw [if_neg (fun y => c ((nI_eq (hb _ (getD_mem hi)) hq).mp y)), nI_1], fun j hj => ?_⟩
      by_cases e : j = i
      · rw [e]
        exact c
      · exact hI j (by omega)
  · rintro t ⟨⟩ hI
    have hne : q ∉ es := fun y => by
      obtain ⟨j, hj, ej⟩ := mem_getD y
      exact hI j hj ej
    have hl24 : es.length < 24 := hlen.resolve_right fun y => hne y.1
    show ∃ r, m_X7_enters_p10 n (t + 1) w b (nI l) (nI q) (nI es.length) (nI es.length) = some r ∧ _
    rw [m_X7_enters_p10, h.g8, Option.bind_some, h.r8 hl, Option.bind_some, ht.1, if_pos (Int32.le_refl _)]
    have key : ∀ (k : Nat), k ≤ es.length → ∀ (t : Nat) (v : Wd) (B : Rw), k < t → MoC v b I J B → Fr w v b → Oth A B l → (∀ i, i < k → B 4 (32 * l + i) = nI (es.getD i 0)) → (∀ i, k < i → i ≤ es.length → B 4 (32 * l + i) = nI (es.getD (i - 1) 0)) → (∀ i, k ≤ i → i < es.length → q < es.getD i 0) → B 5 l = nI es.length →
        ∃ w', m_X7_enters_p44 n t v b (nI l) (nI q) (nI k) = some w' ∧ (∃ A' es', MoC w' b I J A' ∧ Tb A' 4 5 l es' ∧ Asc es' ∧ (∀ x, x ∈ es' ↔ x = q ∨ x ∈ es) ∧ Oth A A' l) ∧ Fr w w' b := by
      intro k
      induction k with
      | zero =>
        intro hk t v B ht1 g1 gq go g2 g3 g4 g5
        obtain ⟨t, rfl⟩ : ∃ u, t = u + 1 := ⟨t - 1, by omega⟩
        obtain ⟨w', e1, r1, q1⟩ := m_e95 (n := n) g1 hl hl24 ha hk g5 g2 g3 g4 (fun i hi => absurd hi (Nat.not_lt_zero _)) go
        exact ⟨w', by rw [m_X7_enters_p44, if_pos (show nI 0 ≤ 0 from Int32.le_refl _), e1], r1, fun x hx => (q1 x hx).trans (gq x hx)⟩
      | succ k ih =>
        intro hk t v B ht1 g1 gq go g2 g3 g4 g5
        obtain ⟨t, rfl⟩ : ∃ u, t = u + 1 := ⟨t - 1, by omega⟩
        have hm : es.getD k 0 ∈ es := getD_mem (by omega)
        have ei : nI (32 * l + (k + 1)) - 1 = nI (32 * l + k) := nI_pred (32 * l + k)
        rw [m_X7_enters_p44, if_neg (nI_nle (Nat.succ_pos _) (by omega)), g1.g7, Option.bind_some, e32, ei, g1.r7 (by omega), Option.bind_some, g2 k (Nat.lt_succ_self _)]
        by_cases c : es.getD k 0 ≤ q
        · rw [if_pos ((nI_leI (hb _ hm) hq).mpr c)]
          obtain ⟨w', e1, r1, q1⟩ := m_e95 (n := n) g1 hl hl24 ha hk g5 g2 g3 g4 (fun i hi => by
            have c1 : es.getD k 0 ≠ q := fun y => hne (y ▸ hm)
            rcases Nat.lt_or_ge i k with y | y
            · have := asc_get ha y (show k < es.length by omega)
              omega
            · have : i = k := by omega
              subst this
              omega) go
          exact ⟨w', e1, r1, fun x hx => (q1 x hx).trans (gq x hx)⟩
        · obtain ⟨v2, e2, h2, q2⟩ := g1.w7 (nI (es.getD k 0)) (k := 32 * l + (k + 1)) (by omega)
          rw [if_neg fun y => c ((nI_leI (hb _ hm) hq).mp y), Option.bind_some, Option.bind_some, g1.r7 (by omega), Option.bind_some, g2 k (Nat.lt_succ_self _), e2, Option.bind_some, pk_m1]
          refine ih (by omega) t v2 _ (by omega) h2 (fun x hx => (q2 x hx).trans (gq x hx)) (go.trans ⟨fun j i a b => setF_row a, fun i hi => setF_col (by omega), fun m hm => setF_row (by decide)⟩) (fun i hi => by rw [setF_col (by omega), g2 i (by omega)]) (fun i hi hi2 => ?_) (fun i hi hi2 => ?_) (by rw [setF_row (by decide)]; exact g5)
          · by_cases e : i = k + 1
            · subst e
              rw [setF_self]
              rfl
            · rw [setF_col (by omega), g3 i (by omega) hi2]
          · by_cases e : i = k
            · subst e
              omega
            · exact g4 i (by omega) hi2
    exact key es.length (Nat.le_refl _) n w A (by omega) h (fun _ _ => rfl) ⟨fun _ _ _ _ => rfl, fun _ _ => rfl, fun _ _ => rfl⟩ ht.2 (fun i a b => absurd a (by omega)) (fun i a b => absurd b (by omega)) ht.1
