/-! THE CLASS SORTS THE POINTS -/
def SoC (w : Wd) (a : Nat) (es : List Nat) : Prop := w a = some (.inr (0, [.ref (a + 1), .ref (a + 2)])) ∧ ∃ f, w (a + 2) = some (.inl (0, 24, .inl f)) ∧ ∀ i, i < es.length → f i = nI (es.getD i 0)
def insAt (es : List Nat) (k x : Nat) : List Nat := es.take k ++ x :: es.drop k
theorem insAt_len {es : List Nat} {k x : Nat} : (insAt es k x).length = es.length + 1 := by
  unfold insAt
  rw [List.length_append, List.length_cons, List.length_take, List.length_drop]
  omega
theorem insAt_perm {es : List Nat} {k x : Nat} : List.Perm (insAt es k x) (x :: es) := by
  unfold insAt
  have := List.perm_middle (l₁ := es.take k) (a := x) (l₂ := es.drop k)
  rwa [List.take_append_drop] at this
theorem insAt_getD {es : List Nat} {k x i : Nat} (hk : k ≤ es.length) : (insAt es k x).getD i 0 = if i < k then es.getD i 0 else if i = k then x else es.getD (i - 1) 0 := by
  unfold insAt
  have hl : (es.take k).length = k := by rw [List.length_take]; omega
  rw [List.getD_eq_getElem?_getD, List.getElem?_append, hl]
  by_cases h : i < k
  · rw [if_pos h, if_pos h, List.getElem?_take, if_pos h, List.getD_eq_getElem?_getD]
  · rw [if_neg h, if_neg h]
    by_cases e : i = k
    · subst e
      rw [if_pos rfl, Nat.sub_self]
      rfl
    · rw [if_neg e]
      obtain ⟨d, rfl⟩ : ∃ d, i = k + 1 + d := ⟨i - (k + 1), by omega⟩
      rw [show k + 1 + d - k = d + 1 by omega, List.getElem?_cons_succ, List.getElem?_drop, List.getD_eq_getElem?_getD]
      congr 2
      omega
theorem asc_get {l : List Nat} (h : Asc l) {i j : Nat} (hij : i < j) (hj : j < l.length) : l.getD i 0 < l.getD j 0 := by
  have := List.pairwise_iff_getElem.mp h i j (by omega) hj hij
  rw [List.getD_eq_getElem?_getD, List.getD_eq_getElem?_getD, List.getElem?_eq_getElem hj, List.getElem?_eq_getElem (show i < l.length by omega)]
  exact this
theorem asc_of_get {l : List Nat} (h : ∀ i j, i < j → j < l.length → l.getD i 0 < l.getD j 0) : Asc l := by
  refine List.pairwise_iff_getElem.mpr fun i j hi hj hij => ?_
  have := h i j hij hj
  rw [List.getD_eq_getElem?_getD, List.getD_eq_getElem?_getD, List.getElem?_eq_getElem hj, List.getElem?_eq_getElem hi] at this
  exact this
theorem insAt_asc {es : List Nat} {k x : Nat} (h : Asc es) (hk : k ≤ es.length) (h1 : ∀ i, i < k → es.getD i 0 < x) (h2 : ∀ i, k ≤ i → i < es.length → x < es.getD i 0) : Asc (insAt es k x) := by
  refine asc_of_get fun i j hij hj => ?_
  rw [insAt_len] at hj
  rw [insAt_getD hk, insAt_getD hk]
  by_cases a : i < k
  · rw [if_pos a]
    by_cases b : j < k
    · rw [if_pos b]
      exact asc_get h hij (by omega)
    · rw [if_neg b]
      by_cases c : j = k
      · rw [if_pos c]
        exact h1 i a
      · rw [if_neg c]
        exact asc_get h (by omega) (by omega)
  · rw [if_neg a, if_neg (by omega : ¬ j < k), if_neg (by omega : ¬ j = k)]
    by_cases c : i = k
    · rw [if_pos c]
      exact h2 _ (by omega) (by omega)
    · rw [if_neg c]
      exact asc_get h (by omega) (by omega)
theorem m_insert {n : Nat} (hn : 30 ≤ n) {w : Wd} {a x : Nat} {es : List Nat} (h : SoC w a es) (ha : Asc es) (hl : es.length < 24) (hx : x < 2 ^ 31) (hb : ∀ q ∈ es, q < 2 ^ 31) (hne : x ∉ es) :
    ∃ w', m_X0_insert n w a (nI x) (nI es.length) = some w' ∧ (∃ es', SoC w' a es' ∧ Asc es' ∧ List.Perm es' (x :: es)) ∧ ∀ q, q ≠ a + 2 → w' q = w q := by
  obtain ⟨h0, f, h1, h2⟩ := h
  have key : ∀ (k : Nat), k ≤ es.length → ∀ (t : Nat) (v : Wd) (g : Nat → Int32), k < t → v (a + 2) = some (.inl (0, 24, .inl g)) → (∀ q, q ≠ a + 2 → v q = w q) → (∀ i, i < k → g i = nI (es.getD i 0)) → (∀ i, k < i → i ≤ es.length → g i = nI (es.getD (i - 1) 0)) → (∀ i, k ≤ i → i < es.length → x < es.getD i 0) →
      ∃ w', m_X0_insert_p2 n t v a (nI x) (nI k) = some w' ∧ (∃ es', SoC w' a es' ∧ Asc es' ∧ List.Perm es' (x :: es)) ∧ ∀ q, q ≠ a + 2 → w' q = w q := by
    intro k
    have fin : k ≤ es.length → ∀ (v : Wd) (g : Nat → Int32), v (a + 2) = some (.inl (0, 24, .inl g)) → (∀ q, q ≠ a + 2 → v q = w q) → (∀ i, i < k → g i = nI (es.getD i 0)) → (∀ i, k < i → i ≤ es.length → g i = nI (es.getD (i - 1) 0)) → (∀ i, k ≤ i → i < es.length → x < es.getD i 0) → (∀ i, i < k → es.getD i 0 < x) →
        ∃ w', m_X0_insert_p38 n v a (nI x) (nI k) = some w' ∧ (∃ es', SoC w' a es' ∧ Asc es' ∧ List.Perm es' (x :: es)) ∧ ∀ q, q ≠ a + 2 → w' q = w q := by
      intro hk v g g1 gq g2 g3 g4 g5
      have v0 : v a = some (.inr (0, [.ref (a + 1), .ref (a + 2)])) := by rw [gq _ (by omega)]; exact h0
      refine ⟨wup v (a + 2) (.inl (0, 24, .inl (upd g k (nI x)))), ?_, ⟨insAt es k x, ⟨by rw [wup_ne (by omega)]; exact v0, _, wup_self, fun i hi => ?_⟩, insAt_asc ha hk g5 g4, insAt_perm⟩, fun q hq => by rw [wup_ne hq, gq q hq]⟩
      · rw [m_X0_insert_p38, gfR_at v0 rfl, Option.bind_some, asI_at g1 (by omega) (by decide), Option.bind_some]
      · rw [insAt_len] at hi
        rw [insAt_getD hk]
        by_cases c : i < k
        · rw [if_pos c, pk_un (by omega), g2 i c]
        · rw [if_neg c]
          by_cases e : i = k
          · subst e
            rw [if_pos rfl, pk_us]
          · rw [if_neg e, pk_un e, g3 i (by omega) (by omega)]
    induction k with
    | zero =>
      intro hk t v g ht g1 gq g2 g3 g4
      obtain ⟨t, rfl⟩ : ∃ u, t = u + 1 := ⟨t - 1, by omega⟩
      rw [m_X0_insert_p2, if_pos (show nI 0 ≤ 0 from Int32.le_refl _)]
      exact fin hk v g g1 gq g2 g3 g4 fun i hi => absurd hi (Nat.not_lt_zero _)
    | succ k ih =>
      intro hk t v g ht g1 gq g2 g3 g4
      obtain ⟨t, rfl⟩ : ∃ u, t = u + 1 := ⟨t - 1, by omega⟩
      have v0 : v a = some (.inr (0, [.ref (a + 1), .ref (a + 2)])) := by rw [gq _ (by omega)]; exact h0
      have hm : es.getD k 0 ∈ es := getD_mem (by omega)
      rw [m_X0_insert_p2, if_neg (nI_nle (Nat.succ_pos _) (by omega)), gfR_at v0 rfl, Option.bind_some, nI_pred, agI_at g1 (by omega) (by decide), Option.bind_some, g2 k (Nat.lt_succ_self _)]
      by_cases c : es.getD k 0 ≤ x
      · rw [if_pos ((nI_leI (hb _ hm) hx).mpr c)]
        refine fin hk v g g1 gq g2 g3 g4 fun i hi => ?_
        have c1 : es.getD k 0 ≠ x := fun q => hne (q ▸ hm)
        rcases Nat.lt_or_ge i k with q | q
        · have := asc_get ha q (show k < es.length by omega)
          omega
        · have : i = k := by omega
          subst this
          omega
      · rw [if_neg fun q => c ((nI_leI (hb _ hm) hx).mp q), Option.bind_some, Option.bind_some, agI_at g1 (by omega) (by decide), Option.bind_some, g2 k (Nat.lt_succ_self _), asI_at g1 (by omega) (by decide), Option.bind_some, pk_m1]
        refine ih (fun hk' v' g' a1 a2 a3 a4 a5 a6 => ?_) (by omega) t _ _ (by omega) wup_self (fun q hq => by rw [wup_ne hq, gq q hq]) (fun i hi => by rw [pk_un (by omega), g2 i (by omega)]) (fun i hi hi2 => ?_) (fun i hi hi2 => ?_)
        · have v0' : v' a = some (.inr (0, [.ref (a + 1), .ref (a + 2)])) := by rw [a2 _ (by omega)]; exact h0
          refine ⟨wup v' (a + 2) (.inl (0, 24, .inl (upd g' k (nI x)))), ?_, ⟨insAt es k x, ⟨by rw [wup_ne (by omega)]; exact v0', _, wup_self, fun i hi => ?_⟩, insAt_asc ha hk' a6 a5, insAt_perm⟩, fun q hq => by rw [wup_ne hq, a2 q hq]⟩
          · rw [m_X0_insert_p38, gfR_at v0' rfl, Option.bind_some, asI_at a1 (by omega) (by decide), Option.bind_some]
          · rw [insAt_len] at hi
            rw [insAt_getD hk']
            by_cases c : i < k
            · rw [if_pos c, pk_un (by omega), a3 i c]
            · rw [if_neg c]
              by_cases e : i = k
              · subst e
                rw [if_pos rfl, pk_us]
              · rw [if_neg e, pk_un e, a4 i (by omega) (by omega)]
        · by_cases e : i = k + 1
          · subst e
            rw [pk_us]
            rfl
          · rw [pk_un e, g3 i (by omega) hi2]
        · by_cases e : i = k
          · subst e
            omega
          · exact g4 i (by omega) hi2
  exact key es.length (Nat.le_refl _) n w f (by omega) h1 (fun _ _ => rfl) h2 (fun i h3 h4 => absurd h3 (by omega)) (fun i h3 h4 => absurd h4 (by omega))
