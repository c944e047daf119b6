section
/-! CODES OF POSITIONS, HEIGHTS: small enough to be looked through -/
def codeN (x y : Nat) : Nat := (m_X3_code (nI x) (nI y)).toNatClampNeg
def xN (c : Nat) : Nat := (m_X3_xOf (nI c)).toNatClampNeg
def yN (c : Nat) : Nat := (m_X3_yOf (nI c)).toNatClampNeg
def hgt (i : Nat) : Nat := if (i + 1) % 2 ≠ 0 then 0 else if (i + 1) % 4 ≠ 0 then 1 else if (i + 1) % 8 ≠ 0 then 2 else if (i + 1) % 16 ≠ 0 then 3 else 4
set_option maxRecDepth 100000 in
theorem code6_all : ∀ x, x < 64 → ∀ y, y < 64 → m_X3_code (nI x) (nI y) = nI (codeN x y) ∧ codeN x y < 4096 := by decide +kernel
set_option maxRecDepth 100000 in
theorem xy6_all : ∀ c, c < 4096 → (m_X3_xOf (nI c) = nI (xN c) ∧ xN c < 64) ∧ m_X3_yOf (nI c) = nI (yN c) ∧ yN c < 64 := by decide +kernel
theorem h6_free (n : Nat) (w : Wd) : ∀ (t : Nat) (r i : Int32), m_X6_heightOf_p6 n t w r i = m_X6_heightOf_p6 0 t (fun _ => none) r i := by
  intro t
  induction t with
  | zero => intro r i; rfl
  | succ t ih =>
    intro r i
    rw [m_X6_heightOf_p6, m_X6_heightOf_p6, ih]
theorem h6_mono (n : Nat) (w : Wd) : ∀ (t k : Nat) (r i v : Int32), m_X6_heightOf_p6 n t w r i = some v → m_X6_heightOf_p6 n (t + k) w r i = some v := by
  intro t
  induction t with
  | zero => intro k r i v h; cases h
  | succ t ih =>
    intro k r i v h
    rw [Nat.add_right_comm, m_X6_heightOf_p6]
    rw [m_X6_heightOf_p6] at h
    by_cases g : 4 ≤ r
    · rw [if_pos g] at h ⊢
      exact h
    · rw [if_neg g] at h ⊢
      by_cases g2 : jrm i 2 = 0
      · rw [if_pos g2] at h ⊢
        exact ih k _ _ v h
      · rw [if_neg g2] at h ⊢
        exact h
theorem h6_all : ∀ i, i < 24 → m_X6_heightOf_p6 0 8 (fun _ => none) 0 (nI i + 1) = some (nI (hgt i)) := by decide +kernel
theorem m_hgt6 {n : Nat} (hn : 8 ≤ n) {w : Wd} {i : Nat} (hi : i < 24) : m_X6_heightOf n w (nI i) = some (nI (hgt i)) := by
  have h := h6_all i hi
  rw [← h6_free n w] at h
  have := h6_mono n w 8 (n - 8) _ _ _ h
  rw [show 8 + (n - 8) = n by omega] at this
  exact this
theorem hgt_le (i : Nat) : hgt i ≤ 4 := by
  unfold hgt
  repeat' split
  all_goals omega
end
section
/-! THE CLASS SORTS THE POINTS -/
def SoC (w : Wd) (a : Nat) (es : List Nat) : Prop := w a = some (.inr (0, [.ref (a + 1), .ref (a + 2)])) ∧ ∃ f, w (a + 2) = some (.inl (0, 24, .inl f)) ∧ ∀ i, i < es.length → f i = nI (es.getD i 0)
def insAt (es : List Nat) (k x : Nat) : List Nat := es.take k ++ x :: es.drop k
theorem insAt_len {es : List Nat} {k x : Nat} : (insAt es k x).length = es.length + 1 := by
  unfold insAt
  rw [List.length_append, List.length_cons, List.length_take, List.length_drop]
  omega
theorem insAt_perm {es : List Nat} {k x : Nat} : List.Perm (insAt es k x) (x :: es) := by
  unfold insAt
  have := List.perm_middle (l₁ := es.take k) (a := x) (l₂ := es.drop k)
  rwa [List.take_append_drop] at this
theorem insAt_getD {es : List Nat} {k x i : Nat} (hk : k ≤ es.length) : (insAt es k x).getD i 0 = if i < k then es.getD i 0 else if i = k then x else es.getD (i - 1) 0 := by
  unfold insAt
  have hl : (es.take k).length = k := by rw [List.length_take]; omega
  rw [List.getD_eq_getElem?_getD, List.getElem?_append, hl]
  by_cases h : i < k
  · rw [if_pos h, if_pos h, List.getElem?_take, if_pos h, List.getD_eq_getElem?_getD]
  · rw [if_neg h, if_neg h]
    by_cases e : i = k
    · subst e
      rw [if_pos rfl, Nat.sub_self]
      rfl
    · rw [if_neg e]
      obtain ⟨d, rfl⟩ : ∃ d, i = k + 1 + d := ⟨i - (k + 1), by omega⟩
      rw [show k + 1 + d - k = d + 1 by omega, List.getElem?_cons_succ, List.getElem?_drop, List.getD_eq_getElem?_getD]
      congr 2
      omega
theorem asc_get {l : List Nat} (h : Asc l) {i j : Nat} (hij : i < j) (hj : j < l.length) : l.getD i 0 < l.getD j 0 := by
  have := List.pairwise_iff_getElem.mp h i j (by omega) hj hij
  rw [List.getD_eq_getElem?_getD, List.getD_eq_getElem?_getD, List.getElem?_eq_getElem hj, List.getElem?_eq_getElem (show i < l.length by omega)]
  exact this
theorem asc_of_get {l : List Nat} (h : ∀ i j, i < j → j < l.length → l.getD i 0 < l.getD j 0) : Asc l := by
  refine List.pairwise_iff_getElem.mpr fun i j hi hj hij => ?_
  have := h i j hij hj
  rw [List.getD_eq_getElem?_getD, List.getD_eq_getElem?_getD, List.getElem?_eq_getElem hj, List.getElem?_eq_getElem hi] at this
  exact this
theorem insAt_asc {es : List Nat} {k x : Nat} (h : Asc es) (hk : k ≤ es.length) (h1 : ∀ i, i < k → es.getD i 0 < x) (h2 : ∀ i, k ≤ i → i < es.length → x < es.getD i 0) : Asc (insAt es k x) := by
  refine asc_of_get fun i j hij hj => ?_
  rw [insAt_len] at hj
  rw [insAt_getD hk, insAt_getD hk]
  by_cases a : i < k
  · rw [if_pos a]
    by_cases b : j < k
    · rw [if_pos b]
      exact asc_get h hij (by omega)
    · rw [if_neg b]
      by_cases c : j = k
      · rw [if_pos c]
        exact h1 i a
      · rw [if_neg c]
        exact asc_get h (by omega) (by omega)
  · rw [if_neg a, if_neg (by omega : ¬ j < k), if_neg (by omega : ¬ j = k)]
    by_cases c : i = k
    · rw [if_pos c]
      exact h2 _ (by omega) (by omega)
    · rw [if_neg c]
      exact asc_get h (by omega) (by omega)
theorem m_insert {n : Nat} (hn : 30 ≤ n) {w : Wd} {a x : Nat} {es : List Nat} (h : SoC w a es) (ha : Asc es) (hl : es.length < 24) (hx : x < 2 ^ 31) (hb : ∀ q ∈ es, q < 2 ^ 31) (hne : x ∉ es) :
    ∃ w', m_X0_insert n w a (nI x) (nI es.length) = some w' ∧ (∃ es', SoC w' a es' ∧ Asc es' ∧ List.Perm es' (x :: es)) ∧ ∀ q, q ≠ a + 2 → w' q = w q := by
  obtain ⟨h0, f, h1, h2⟩ := h
  have key : ∀ (k : Nat), k ≤ es.length → ∀ (t : Nat) (v : Wd) (g : Nat → Int32), k < t → v (a + 2) = some (.inl (0, 24, .inl g)) → (∀ q, q ≠ a + 2 → v q = w q) → (∀ i, i < k → g i = nI (es.getD i 0)) → (∀ i, k < i → i ≤ es.length → g i = nI (es.getD (i - 1) 0)) → (∀ i, k ≤ i → i < es.length → x < es.getD i 0) →
      ∃ w', m_X0_insert_p2 n t v a (nI x) (nI k) = some w' ∧ (∃ es', SoC w' a es' ∧ Asc es' ∧ List.Perm es' (x :: es)) ∧ ∀ q, q ≠ a + 2 → w' q = w q := by
    intro k
    have fin : k ≤ es.length → ∀ (v : Wd) (g : Nat → Int32), v (a + 2) = some (.inl (0, 24, .inl g)) → (∀ q, q ≠ a + 2 → v q = w q) → (∀ i, i < k → g i = nI (es.getD i 0)) → (∀ i, k < i → i ≤ es.length → g i = nI (es.getD (i - 1) 0)) → (∀ i, k ≤ i → i < es.length → x < es.getD i 0) → (∀ i, i < k → es.getD i 0 < x) →
        ∃ w', m_X0_insert_p38 n v a (nI x) (nI k) = some w' ∧ (∃ es', SoC w' a es' ∧ Asc es' ∧ List.Perm es' (x :: es)) ∧ ∀ q, q ≠ a + 2 → w' q = w q := by
      intro hk v g g1 gq g2 g3 g4 g5
      have v0 : v a = some (.inr (0, [.ref (a + 1), .ref (a + 2)])) := by rw [gq _ (by omega)]; exact h0
      refine ⟨wup v (a + 2) (.inl (0, 24, .inl (upd g k (nI x)))), ?_, ⟨insAt es k x, ⟨by rw [wup_ne (by omega)]; exact v0, _, wup_self, fun i hi => ?_⟩, insAt_asc ha hk g5 g4, insAt_perm⟩, fun q hq => by rw [wup_ne hq, gq q hq]⟩
      · rw [m_X0_insert_p38, gfR_at v0 rfl, Option.bind_some, asI_at g1 (by omega) (by decide), Option.bind_some]
      · rw [insAt_len] at hi
        rw [insAt_getD hk]
        by_cases c : i < k
        · rw [if_pos c, pk_un (by omega), g2 i c]
        · rw [if_neg c]
          by_cases e : i = k
          · subst e
            rw [if_pos rfl, pk_us]
          · rw [if_neg e, pk_un e, g3 i (by omega) (by omega)]
    induction k with
    | zero =>
      intro hk t v g ht g1 gq g2 g3 g4
      obtain ⟨t, rfl⟩ : ∃ u, t = u + 1 := ⟨t - 1, by omega⟩
      rw [m_X0_insert_p2, if_pos (show nI 0 ≤ 0 from Int32.le_refl _)]
      exact fin hk v g g1 gq g2 g3 g4 fun i hi => absurd hi (Nat.not_lt_zero _)
    | succ k ih =>
      intro hk t v g ht g1 gq g2 g3 g4
      obtain ⟨t, rfl⟩ : ∃ u, t = u + 1 := ⟨t - 1, by omega⟩
      have v0 : v a = some (.inr (0, [.ref (a + 1), .ref (a + 2)])) := by rw [gq _ (by omega)]; exact h0
      have hm : es.getD k 0 ∈ es := getD_mem (by omega)
      rw [m_X0_insert_p2, if_neg (nI_nle (Nat.succ_pos _) (by omega)), gfR_at v0 rfl, Option.bind_some, nI_pred, agI_at g1 (by omega) (by decide), Option.bind_some, g2 k (Nat.lt_succ_self _)]
      by_cases c : es.getD k 0 ≤ x
      · rw [if_pos ((nI_leI (hb _ hm) hx).mpr c)]
        refine fin hk v g g1 gq g2 g3 g4 fun i hi => ?_
        have c1 : es.getD k 0 ≠ x := fun q => hne (q ▸ hm)
        rcases Nat.lt_or_ge i k with q | q
        · have := asc_get ha q (show k < es.length by omega)
          omega
        · have : i = k := by omega
          subst this
          omega
      · rw [if_neg fun q => c ((nI_leI (hb _ hm) hx).mp q), Option.bind_some, Option.bind_some, agI_at g1 (by omega) (by decide), Option.bind_some, g2 k (Nat.lt_succ_self _), asI_at g1 (by omega) (by decide), Option.bind_some, pk_m1]
        refine ih (fun hk' v' g' a1 a2 a3 a4 a5 a6 => ?_) (by omega) t _ _ (by omega) wup_self (fun q hq => by rw [wup_ne hq, gq q hq]) (fun i hi => by rw [pk_un (by omega), g2 i (by omega)]) (fun i hi hi2 => ?_) (fun i hi hi2 => ?_)
        · have v0' : v' a = some (.inr (0, [.ref (a + 1), .ref (a + 2)])) := by rw [a2 _ (by omega)]; exact h0
          refine ⟨wup v' (a + 2) (.inl (0, 24, .inl (upd g' k (nI x)))), ?_, ⟨insAt es k x, ⟨by rw [wup_ne (by omega)]; exact v0', _, wup_self, fun i hi => ?_⟩, insAt_asc ha hk' a6 a5, insAt_perm⟩, fun q hq => by rw [wup_ne hq, a2 q hq]⟩
          · rw [m_X0_insert_p38, gfR_at v0' rfl, Option.bind_some, asI_at a1 (by omega) (by decide), Option.bind_some]
          · rw [insAt_len] at hi
            rw [insAt_getD hk']
            by_cases c : i < k
            · rw [if_pos c, pk_un (by omega), a3 i c]
            · rw [if_neg c]
              by_cases e : i = k
              · subst e
                rw [if_pos rfl, pk_us]
              · rw [if_neg e, pk_un e, a4 i (by omega) (by omega)]
        · by_cases e : i = k + 1
          · subst e
            rw [pk_us]
            rfl
          · rw [pk_un e, g3 i (by omega) hi2]
        · by_cases e : i = k
          · subst e
            omega
          · exact g4 i (by omega) hi2
  exact key es.length (Nat.le_refl _) n w f (by omega) h1 (fun _ _ => rfl) h2 (fun i h3 h4 => absurd h3 (by omega)) (fun i h3 h4 => absurd h4 (by omega))
end
section
/-! THE SORTED POINTS OF A ROW -/
theorem lpk {σ τ R : Type} (L : Nat → Nat → σ → R) (fin : τ → R) (I : Nat → σ → Prop) (P : τ → Prop) (b : Nat)
    (hs : ∀ t k s, k < b → I k s → (∃ s', L (t + 1) k s = L t (k + 1) s' ∧ I (k + 1) s') ∨ ∃ r, L (t + 1) k s = fin r ∧ P r)
    (he : ∀ t s, I b s → ∃ r, L (t + 1) b s = fin r ∧ P r) : ∀ (d k t : Nat) (s : σ), k + d = b → d < t → I k s → ∃ r, L t k s = fin r ∧ P r := by
  intro d
  induction d with
  | zero =>
    intro k t s h1 h2 h3
    obtain ⟨t, rfl⟩ : ∃ u, t = u + 1 := ⟨t - 1, by omega⟩
    have : k = b := by omega
    subst this
    exact he t s h3
  | succ d ih =>
    intro k t s h1 h2 h3
    obtain ⟨t, rfl⟩ : ∃ u, t = u + 1 := ⟨t - 1, by omega⟩
    rcases hs t k s (by omega) h3 with ⟨s', e, h⟩ | h
    · rw [e]
      exact ih (k + 1) t s' (by omega) (by omega) h
    · exact h
def codeS (S : Nat → Int32) (i : Nat) : Nat := codeN (S (5 * i + 1)).toNatClampNeg (S (5 * i + 2)).toNatClampNeg
theorem codeS_at {S : Nat → Int32} {i : Nat} (h : WFp S i) : ∃ x y, x < 64 ∧ y < 64 ∧ S (5 * i + 1) = nI x ∧ S (5 * i + 2) = nI y ∧ codeS S i = codeN x y ∧ codeS S i < 4096 := by
  obtain ⟨-, ⟨x, hx, ex⟩, ⟨y, hy, ey⟩, -⟩ := h
  have e : codeS S i = codeN x y := by
    unfold codeS
    rw [ex, ey, nI_clamp (by omega), nI_clamp (by omega)]
  exact ⟨x, y, hx, hy, ex, ey, e, by rw [e]; exact (code6_all x hx y hy).2⟩
def ent (S : Nat → Int32) (i : Nat) : Nat := codeS S i * 32 + i
def idsS (S : Nat → Int32) (k : Nat) : List Nat := (List.range k).filter fun i => decide (S (5 * i) ≠ 0)
theorem idsS_succ {S : Nat → Int32} {k : Nat} : idsS S (k + 1) = idsS S k ++ if S (5 * k) ≠ 0 then [k] else [] := by
  unfold idsS
  rw [List.range_succ, List.filter_append]
  congr 1
  by_cases h : S (5 * k) = 0 <;> simp [h]
theorem idsS_mem {S : Nat → Int32} {k i : Nat} : i ∈ idsS S k ↔ i < k ∧ S (5 * i) ≠ 0 := by
  unfold idsS
  rw [List.mem_filter, List.mem_range, decide_eq_true_eq]
def EsOf (S : Nat → Int32) (k : Nat) (es : List Nat) : Prop := Asc es ∧ List.Perm es ((idsS S k).map (ent S))
theorem EsOf.mem {S : Nat → Int32} {k : Nat} {es : List Nat} (h : EsOf S k es) {q : Nat} : q ∈ es ↔ ∃ i, i < k ∧ S (5 * i) ≠ 0 ∧ q = ent S i := by
  rw [h.2.mem_iff, List.mem_map]
  exact ⟨fun ⟨i, h1, h2⟩ => ⟨i, (idsS_mem.mp h1).1, (idsS_mem.mp h1).2, h2.symm⟩, fun ⟨i, h1, h2, h3⟩ => ⟨i, idsS_mem.mpr ⟨h1, h2⟩, h3.symm⟩⟩
theorem EsOf.len {S : Nat → Int32} {k : Nat} {es : List Nat} (h : EsOf S k es) : es.length ≤ k := by
  rw [h.2.length_eq, List.length_map]
  have := List.length_filter_le (fun i => decide (S (5 * i) ≠ 0)) (List.range k)
  rw [List.length_range] at this
  exact this
theorem EsOf.lt {S : Nat → Int32} {k : Nat} {es : List Nat} (h : EsOf S k es) (hw : WF S) (hk : k ≤ 24) {q : Nat} (hq : q ∈ es) : q < 131072 := by
  obtain ⟨i, h1, h2, rfl⟩ := h.mem.mp hq
  obtain ⟨x, y, -, -, -, -, -, hc⟩ := codeS_at (hw.1 i (by omega))
  unfold ent
  omega
theorem m_sort {n : Nat} (hn : 60 ≤ n) {w : Wd} {a b : Nat} {es0 : List Nat} {S : Nat → Int32} (h : w a = some (.inr (0, [.ref (a + 1), .ref (a + 2)]))) (h2 : ∃ f, w (a + 2) = some (.inl (0, 24, .inl f))) (hs : StW w b S) (hw : WF S) (hab : b + 8 < a) :
    ∃ r, m_X0_sortPoints n w a b = some r ∧ (∃ es, r.1 = nI es.length ∧ SoC r.2 a es ∧ EsOf S 24 es) ∧ ∀ q, q ≠ a + 2 → r.2 q = w q := by
  obtain ⟨F, tt, hF, hR⟩ := hs
  obtain ⟨f, hf⟩ := h2
  unfold m_X0_sortPoints
  refine lp (σ := Int32 × Wd) (R := Int32 × Wd) (fun t k s => m_X0_sortPoints_p4 n t s.2 a b s.1 (nI k)) (fun k s => (∃ es, s.1 = nI es.length ∧ SoC s.2 a es ∧ EsOf S k es) ∧ ∀ q, q ≠ a + 2 → s.2 q = w q) (fun r => (∃ es, r.1 = nI es.length ∧ SoC r.2 a es ∧ EsOf S 24 es) ∧ ∀ q, q ≠ a + 2 → r.2 q = w q) 24 ?_ ?_ 24 0 n (0, w) rfl (by omega) ⟨⟨[], rfl, ⟨h, f, hf, fun i hi => absurd hi (Nat.not_lt_zero _)⟩, List.Pairwise.nil, List.Perm.refl _⟩, fun _ _ => rfl⟩
  · rintro t k ⟨c, v⟩ hk ⟨⟨es, e1, h1, h3⟩, hq⟩
    subst e1
    have g : StC v b tt F := hF.frame fun q a1 a2 => hq q (by omega)
    left
    show ∃ s', m_X0_sortPoints_p4 n (t + 1) v a b (nI es.length) (nI k) = _ ∧ _
    rw [m_X0_sortPoints_p4, if_neg (show ¬ (24 : Int32) ≤ nI k from nI_ge hk (by decide)), rd0 g hk, hR.1 0 k (by decide) hk, Nat.add_zero]
    by_cases hz : S (5 * k) = 0
    · rw [if_pos hz]
      refine ⟨(nI es.length, v), by rw [nI_1], ⟨es, rfl, h1, ?_⟩, hq⟩
      unfold EsOf
      rw [idsS_succ, if_neg (fun q => q hz), List.append_nil]
      exact h3
    · obtain ⟨x, y, hx, hy, ex, ey, ec, hc⟩ := codeS_at (hw.1 k hk)
      have hne : ent S k ∉ es := fun q => by
        obtain ⟨i, i1, i2, i3⟩ := h3.mem.mp q
        unfold ent at i3
        omega
      have hl := h3.len
      obtain ⟨v2, e2, ⟨es2, s1, s2, s3⟩, q2⟩ := m_insert (n := n) (x := ent S k) (by omega) h1 h3.1 (by omega) (by unfold ent; omega) (fun q hq1 => by have := h3.lt hw (by omega) hq1; omega) hne
      have hl2 : es2.length = es.length + 1 := by rw [s3.length_eq, List.length_cons]
      refine ⟨(nI (es.length + 1), v2), ?_, ⟨es2, by rw [hl2], s1, s2, ?_⟩, fun q hq1 => (q2 q hq1).trans (hq q hq1)⟩
      · rw [if_neg hz, rd1 g hk, hR.1 1 k (by decide) hk, rd2 g hk, hR.1 2 k (by decide) hk, ex, ey, (code6_all x hx y hy).1, ← ec, chk_at h1.1, Option.bind_some, show (32 : Int32) = nI 32 from rfl, pk_mul, nI_add, show codeS S k * 32 + k = ent S k from rfl, e2, Option.bind_some, nI_1, nI_1]
      · rw [idsS_succ, if_pos hz, List.map_append]
        exact s3.trans ((List.Perm.cons _ h3.2).trans (List.perm_append_comm (l₁ := [ent S k])))
  · rintro t ⟨c, v⟩ ⟨⟨es, e1, h1, h3⟩, hq⟩
    refine ⟨(c, v), ?_, ⟨es, e1, h1, h3⟩, hq⟩
    show m_X0_sortPoints_p4 n (t + 1) v a b c (nI 24) = _
    rw [m_X0_sortPoints_p4, if_pos (by decide)]
end
section
/-! THE CLASS PLANTS A FOREST -/
def FoG (w : Wd) (a : Nat) : Prop := w a = some (.inr (0, [.ref (a + 1), .ref (a + 2)])) ∧ ∃ f, w (a + 1) = some (.inl (3, 5, .inr (.inr (.inr (.inr f))))) ∧ ∀ k, k < 5 → f k = some (a + 3 + 3 * k)
def FoX (w : Wd) (a : Nat) : Prop := FoG w a ∧ (∃ f, w (a + 2) = some (.inl (0, 24, .inl f))) ∧ ∀ l, l < 5 → ∃ cs qs, LvC w (a + 3 + 3 * l) cs qs
def CsOf (es : List Nat) (l : Nat) : List Nat := (es.filter fun e => decide (l ≤ hgt (e % 32))).map (· / 32)
def FoC (w : Wd) (a : Nat) (S : Nat → Int32) : Prop := FoG w a ∧ ∃ es, SoC w a es ∧ EsOf S 24 es ∧ ∀ l, l < 5 → ∃ qs, LvC w (a + 3 + 3 * l) (CsOf es l) qs ∧ NodesOf (CsOf es l) qs
theorem FoC.x {w : Wd} {a : Nat} {S : Nat → Int32} (h : FoC w a S) : FoX w a := by
  obtain ⟨h1, es, h2, h3, h4⟩ := h
  obtain ⟨-, f, h5, -⟩ := h2
  exact ⟨h1, ⟨f, h5⟩, fun l hl => by obtain ⟨qs, g, -⟩ := h4 l hl; exact ⟨_, qs, g⟩⟩
theorem FoG.frame {w w' : Wd} {a : Nat} (h : FoG w a) (hq : ∀ q, a ≤ q → q ≤ a + 2 → w' q = w q) : FoG w' a := by
  obtain ⟨h1, f, h2, h3⟩ := h
  exact ⟨by rw [hq _ (by omega) (by omega)]; exact h1, f, by rw [hq _ (by omega) (by omega)]; exact h2, h3⟩
theorem SoC.frame {w w' : Wd} {a : Nat} {es : List Nat} (h : SoC w a es) (hq : ∀ q, a ≤ q → q ≤ a + 2 → w' q = w q) : SoC w' a es := by
  obtain ⟨h1, f, h2, h3⟩ := h
  exact ⟨by rw [hq _ (by omega) (by omega)]; exact h1, f, by rw [hq _ (by omega) (by omega)]; exact h2, h3⟩
theorem FoX.frame {w w' : Wd} {a : Nat} (h : FoX w a) (hq : ∀ q, a ≤ q → q ≤ a + 17 → w' q = w q) : FoX w' a := by
  obtain ⟨h1, ⟨f, h2⟩, h3⟩ := h
  refine ⟨h1.frame fun q a b => hq q a (by omega), ⟨f, by rw [hq _ (by omega) (by omega)]; exact h2⟩, fun l hl => ?_⟩
  obtain ⟨cs, qs, g⟩ := h3 l hl
  exact ⟨cs, qs, g.frame fun q a b => hq q (by omega) (by omega)⟩
theorem FoC.frame {w w' : Wd} {a : Nat} {S : Nat → Int32} (h : FoC w a S) (hq : ∀ q, a ≤ q → q ≤ a + 17 → w' q = w q) : FoC w' a S := by
  obtain ⟨h1, es, h2, h3, h4⟩ := h
  refine ⟨h1.frame fun q a b => hq q a (by omega), es, h2.frame fun q a b => hq q a (by omega), h3, fun l hl => ?_⟩
  obtain ⟨qs, g, k⟩ := h4 l hl
  exact ⟨qs, g.frame fun q a b => hq q (by omega) (by omega), k⟩
theorem FoG.lv {R : Type} {w : Wd} {a l : Nat} {f : Nat → Option R} (h : FoG w a) (hl : l < 5) : ((gfR 0 0 w a).bind fun q => (agQ 3 w q (nI l)).bind f) = f (a + 3 + 3 * l) := by
  obtain ⟨h1, g, h2, h3⟩ := h
  rw [gfR_at h1 rfl, Option.bind_some, agQ_at h2 hl (by decide), h3 l hl, Option.bind_some]
theorem CsOf_app {es : List Nat} {e l : Nat} : CsOf (es ++ [e]) l = CsOf es l ++ if l ≤ hgt (e % 32) then [e / 32] else [] := by
  unfold CsOf
  rw [List.filter_append, List.map_append]
  congr 1
  by_cases h : l ≤ hgt (e % 32) <;> simp [h]
theorem CsOf_len {es : List Nat} {l : Nat} : (CsOf es l).length ≤ es.length := by
  unfold CsOf
  rw [List.length_map]
  exact List.length_filter_le _ _
theorem CsOf_srt {es : List Nat} {l : Nat} (h : Asc es) : Srt (CsOf es l) := by
  unfold CsOf Srt
  rw [List.pairwise_map]
  exact (List.Pairwise.filter _ h).imp fun q => Nat.div_le_div_right (Nat.le_of_lt q)
theorem CsOf_12 {es : List Nat} {l : Nat} (h : ∀ q ∈ es, q < 131072) : C12 (CsOf es l) := by
  intro c hc
  obtain ⟨e, he, rfl⟩ := List.mem_map.mp hc
  have := h e (List.mem_filter.mp he).1
  omega
theorem take_s {es : List Nat} {k : Nat} (hk : k < es.length) : es.take (k + 1) = es.take k ++ [es.getD k 0] := by
  rw [List.take_succ, List.getD_eq_getElem?_getD, List.getElem?_eq_getElem hk]
  rfl
theorem m_plant {n : Nat} (hn : 80 ≤ n) {w : Wd} {a b : Nat} {S : Nat → Int32} (h : FoX w a) (hs : StW w b S) (hw : WF S) (hab : b + 8 < a) :
    ∃ w', m_X0_plant n w a b = some w' ∧ FoC w' a S ∧ ∀ q, (q < a ∨ a + 17 < q) → w' q = w q := by
  obtain ⟨hg, hf, hl⟩ := h
  obtain ⟨r, e1, ⟨es, er, hso, hes⟩, q1⟩ := m_sort (n := n) (es0 := []) (by omega) hg.1 hf hs hw hab
  have hlen : es.length ≤ 24 := hes.len
  have hbd : ∀ q ∈ es, q < 131072 := fun q hq => hes.lt hw (Nat.le_refl _) hq
  have hg1 : FoG r.2 a := by
    obtain ⟨g1, f, g2, g3⟩ := hg
    exact ⟨by rw [q1 _ (by omega)]; exact g1, f, by rw [q1 _ (by omega)]; exact g2, g3⟩
  have G : ∀ v : Wd, (∀ q, (q < a + 3 ∨ a + 17 < q) → v q = r.2 q) → FoG v a ∧ SoC v a es := fun v hv => ⟨hg1.frame fun q a b => hv q (by omega), hso.frame fun q a b => hv q (by omega)⟩
  have main : ∃ w', m_X0_plant_p8 n n r.2 a (nI es.length) (nI 0) = some w' ∧ ((∀ l, l < 5 → ∃ qs, LvC w' (a + 3 + 3 * l) (CsOf es l) qs ∧ NodesOf (CsOf es l) qs) ∧ ∀ q, (q < a + 3 ∨ a + 17 < q) → w' q = r.2 q) := by
    refine lp (σ := Wd) (fun t k v => m_X0_plant_p8 n t v a (nI es.length) (nI k)) (fun k v => (∀ l, l < 5 → ∃ cs qs, LvC v (a + 3 + 3 * l) cs qs ∧ (l < k → cs = [] ∧ qs = [0])) ∧ ∀ q, (q < a + 3 ∨ a + 17 < q) → v q = r.2 q) _ 5 ?_ ?_ 5 0 n r.2 rfl (by omega) ⟨fun l hl5 => ?_, fun _ _ => rfl⟩
    · rintro t k v hk ⟨h1, hq⟩
      left
      obtain ⟨g1, g2⟩ := G v hq
      obtain ⟨cs, qs, k1, -⟩ := h1 k hk
      obtain ⟨v2, e2, k2, q2⟩ := m_lclear (n := n) k1
      refine ⟨v2, ?_, fun l hl5 => ?_, fun q hq1 => (q2 q (by omega)).trans (hq q hq1)⟩
      · show m_X0_plant_p8 n (t + 1) v a (nI es.length) (nI k) = _
        rw [m_X0_plant_p8, if_neg (show ¬ (5 : Int32) ≤ nI k from nI_ge hk (by decide)), g1.lv hk, k1.c, Option.bind_some, e2, Option.bind_some, nI_1]
      · by_cases c : l = k
        · subst c
          exact ⟨_, _, k2, fun _ => ⟨rfl, rfl⟩⟩
        · obtain ⟨cs', qs', k3, k4⟩ := h1 l hl5
          exact ⟨cs', qs', k3.frame fun q a1 a2 => q2 q (by omega), fun x => k4 (by omega)⟩
    · rintro t v ⟨h1, hq⟩
      show ∃ r', m_X0_plant_p8 n (t + 1) v a (nI es.length) (nI 5) = some r' ∧ _
      rw [m_X0_plant_p8, if_pos (by decide), m_X0_plant_p28]
      refine lp (σ := Wd) (fun t k v => m_X0_plant_p30 n t v a (nI es.length) (nI k)) (fun k v => (∀ l, l < 5 → LvC v (a + 3 + 3 * l) (CsOf (es.take k) l) [0]) ∧ ∀ q, (q < a + 3 ∨ a + 17 < q) → v q = r.2 q) _ es.length ?_ ?_ es.length 0 n v (by omega) (by omega) ⟨fun l hl5 => ?_, hq⟩
      · rintro t k v hk ⟨h1, hq⟩
        left
        obtain ⟨g1, g2⟩ := G v hq
        obtain ⟨o1, f, o2, o3⟩ := g2
        have hm : es.getD k 0 ∈ es := getD_mem hk
        have hb := hbd _ hm
        have h24 : es.getD k 0 % 32 < 24 := by
          obtain ⟨i, i1, i2, i3⟩ := hes.mem.mp hm
          rw [i3]
          unfold ent
          omega
        have hH := hgt_le (es.getD k 0 % 32)
        show ∃ s', m_X0_plant_p30 n (t + 1) v a (nI es.length) (nI k) = _ ∧ _
        rw [m_X0_plant_p30, if_neg (nI_ge hk (by omega)), gfR_at o1 rfl, Option.bind_some, agI_at o2 (by omega) (by decide), o3 k hk, Option.bind_some, show (32 : Int32) = nI 32 from rfl, jrm_nI (by omega) (by decide) (by decide), m_hgt6 (by omega) h24, Option.bind_some]
        refine lpk (σ := Wd) (τ := Wd) (fun t' j v => m_X0_plant_p52 n (fun w b0 b2 b3 => m_X0_plant_p30 n t w b0 b2 b3) t' v a (nI es.length) (nI k) (nI (hgt (es.getD k 0 % 32))) (nI j)) (fun v => m_X0_plant_p30 n t v a (nI es.length) (nI (k + 1))) (fun j v => (∀ l, l < 5 → LvC v (a + 3 + 3 * l) (if l < j then CsOf (es.take (k + 1)) l else CsOf (es.take k) l) [0]) ∧ ∀ q, (q < a + 3 ∨ a + 17 < q) → v q = r.2 q) _ (hgt (es.getD k 0 % 32) + 1) ?_ ?_ (hgt (es.getD k 0 % 32) + 1) 0 n v (by omega) (by omega) ⟨fun l hl5 => h1 l hl5, hq⟩
        · rintro t' j v hj ⟨h1, hq⟩
          left
          obtain ⟨g1, g2⟩ := G v hq
          obtain ⟨o1, f, o2, o3⟩ := g2
          have k1 := h1 j (by omega)
          rw [if_neg (Nat.lt_irrefl _)] at k1
          have hcl : (CsOf (es.take k) j).length < 24 := by
            have := CsOf_len (es := es.take k) (l := j)
            rw [List.length_take] at this
            omega
          obtain ⟨v2, e2, k2, q2⟩ := m_take (n := n) k1 (x := es.getD k 0 / 32) hcl
          refine ⟨v2, ?_, fun l hl5 => ?_, fun q hq1 => (q2 q (by omega)).trans (hq q hq1)⟩
          · show m_X0_plant_p52 n _ (t' + 1) v a (nI es.length) (nI k) (nI (hgt (es.getD k 0 % 32))) (nI j) = _
            rw [m_X0_plant_p52, if_neg (nI_nlt (by omega) (by omega)), g1.lv (by omega), gfR_at o1 rfl, Option.bind_some, agI_at o2 (by omega) (by decide), o3 k hk, Option.bind_some, k1.c, Option.bind_some, show (32 : Int32) = nI 32 from rfl, pk_div (by omega) (by decide) (by decide), e2, Option.bind_some, nI_1]
          · by_cases c : l = j
            · subst c
              rw [if_pos (Nat.lt_succ_self _), take_s hk, CsOf_app, if_pos (by omega)]
              exact k2
            · have k3 := (h1 l hl5).frame (w' := v2) fun q a1 a2 => q2 q (by omega)
              by_cases d : l < j
              · rw [if_pos d] at k3
                rw [if_pos (by omega)]
                exact k3
              · rw [if_neg d] at k3
                rw [if_neg (by omega)]
                exact k3
        · rintro t' v ⟨h1, hq⟩
          refine ⟨v, ?_, fun l hl5 => ?_, hq⟩
          · show m_X0_plant_p52 n _ (t' + 1) v a (nI es.length) (nI k) (nI (hgt (es.getD k 0 % 32))) (nI (hgt (es.getD k 0 % 32) + 1)) = _
            rw [m_X0_plant_p52, if_pos (nI_lt (Nat.lt_succ_self _) (by omega)), nI_1]
          · have k3 := h1 l hl5
            by_cases d : l < hgt (es.getD k 0 % 32) + 1
            · rw [if_pos d] at k3
              exact k3
            · rw [if_neg d] at k3
              rw [take_s hk, CsOf_app, if_neg (by omega), List.append_nil]
              exact k3
      · rintro t v ⟨h1, hq⟩
        show ∃ r', m_X0_plant_p30 n (t + 1) v a (nI es.length) (nI es.length) = some r' ∧ _
        rw [m_X0_plant_p30, if_pos (Int32.le_refl _), m_X0_plant_p90]
        rw [List.take_length] at h1
        refine lp (σ := Wd) (fun t k v => m_X0_plant_p92 n t v a (nI k)) (fun k v => (∀ l, l < 5 → ∃ qs, LvC v (a + 3 + 3 * l) (CsOf es l) qs ∧ (l < k → NodesOf (CsOf es l) qs) ∧ (k ≤ l → qs = [0])) ∧ ∀ q, (q < a + 3 ∨ a + 17 < q) → v q = r.2 q) _ 5 ?_ ?_ 5 0 n v rfl (by omega) ⟨fun l hl5 => ⟨[0], h1 l hl5, fun x => absurd x (Nat.not_lt_zero _), fun _ => rfl⟩, hq⟩
        · rintro t k v hk ⟨h1, hq⟩
          left
          obtain ⟨g1, g2⟩ := G v hq
          obtain ⟨qs, k1, -, k3⟩ := h1 k hk
          have := k3 (Nat.le_refl _)
          subst this
          obtain ⟨v2, e2, ⟨qs2, k4, k5⟩, q2⟩ := m_find (n := n) (by omega) k1 (CsOf_12 hbd) (CsOf_srt hes.1)
          refine ⟨v2, ?_, fun l hl5 => ?_, fun q hq1 => (q2 q (by omega)).trans (hq q hq1)⟩
          · show m_X0_plant_p92 n (t + 1) v a (nI k) = _
            rw [m_X0_plant_p92, if_neg (show ¬ (5 : Int32) ≤ nI k from nI_ge hk (by decide)), g1.lv hk, k1.c, Option.bind_some, e2, Option.bind_some, nI_1]
          · by_cases c : l = k
            · subst c
              exact ⟨qs2, k4, fun _ => k5, fun x => absurd x (by omega)⟩
            · obtain ⟨qs', b1, b2, b3⟩ := h1 l hl5
              exact ⟨qs', b1.frame fun q a1 a2 => q2 q (by omega), fun x => b2 (by omega), fun x => b3 (by omega)⟩
        · rintro t v ⟨h1, hq⟩
          refine ⟨v, ?_, fun l hl5 => ?_, hq⟩
          · show m_X0_plant_p92 n (t + 1) v a (nI 5) = _
            rw [m_X0_plant_p92, if_pos (by decide)]
          · obtain ⟨qs', b1, b2, -⟩ := h1 l hl5
            exact ⟨qs', b1, b2 hl5⟩
      · obtain ⟨cs, qs, k1, k2⟩ := h1 l hl5
        obtain ⟨rfl, rfl⟩ := k2 hl5
        exact k1
    · obtain ⟨cs, qs, k1⟩ := hl l hl5
      exact ⟨cs, qs, k1.frame fun q a1 a2 => q1 q (by omega), fun x => absurd x (Nat.not_lt_zero _)⟩
  obtain ⟨w', e2, h2, q2⟩ := main
  obtain ⟨g1, g2⟩ := G w' q2
  refine ⟨w', ?_, ⟨g1, es, g2, hes, h2⟩, fun q hq => (q2 q (by omega)).trans (q1 q (by omega))⟩
  rw [m_X0_plant, chk_at hg.1, Option.bind_some, e1, Option.bind_some, er]
  exact e2
end
section
/-! HOW MANY NODES DIFFER -/
def com (qs rs : List Nat) : Nat := (qs.filter fun q => decide (q ∈ rs)).length
def dif (qs rs : List Nat) : Nat := qs.length + rs.length - 2 * com qs rs
theorem com_le1 {qs rs : List Nat} : com qs rs ≤ qs.length := List.length_filter_le _ _
theorem com_le2 {qs rs : List Nat} (h : Asc qs) : com qs rs ≤ rs.length := asc_len (List.Pairwise.filter _ h) fun q hq => by
  have := (List.mem_filter.mp hq).2
  exact of_decide_eq_true this
theorem com_app {qs rs : List Nat} {q : Nat} : com (qs ++ [q]) rs = com qs rs + if q ∈ rs then 1 else 0 := by
  unfold com
  rw [List.filter_append, List.length_append]
  congr 1
  by_cases h : q ∈ rs <;> simp [h]
theorem m_ldiff {n : Nat} (hn : 60 ≤ n) {w : Wd} {a b : Nat} {cs qs ds rs : List Nat} (h : LvC w a cs qs) (g : LvC w b ds rs) (hq : Asc qs) (hr : Asc rs) (hb1 : ∀ q ∈ qs, q < 2 ^ 31) (hb2 : ∀ q ∈ rs, q < 2 ^ 31) : m_X1_differences n w a b = some (nI (dif qs rs)) := by
  have h24 := h.2.2.2.2.1
  have g24 := g.2.2.2.2.1
  unfold m_X1_differences
  obtain ⟨v, e, rfl⟩ := lp (σ := Nat × Nat) (R := Int32) (fun t i s => m_X1_differences_p7 n t w a b (nI s.1) (nI s.2) (nI i)) (fun i s => s.1 = com (qs.take i) rs ∧ s.2 ≤ rs.length ∧ ∀ j, j < s.2 → ∀ m, i ≤ m → m < qs.length → rs.getD j 0 < qs.getD m 0) (fun v => v = nI (dif qs rs)) qs.length (by
    rintro t i ⟨c, k⟩ hi ⟨h1, h2, h3⟩
    change c = com (qs.take i) rs at h1
    change k ≤ rs.length at h2
    left
    show ∃ s', m_X1_differences_p7 n (t + 1) w a b (nI c) (nI k) (nI i) = _ ∧ _
    rw [m_X1_differences_p7, h.i3, Option.bind_some, if_neg (nI_ge hi (by omega))]
    refine lpk (σ := Unit) (τ := Nat × Nat) (fun t' k _ => m_X1_differences_p16 n (fun w b0 b1 b2 b3 b4 => m_X1_differences_p7 n t w b0 b1 b2 b3 b4) t' w a b (nI c) (nI k) (nI i)) (fun s => m_X1_differences_p7 n t w a b (nI s.1) (nI s.2) (nI (i + 1))) (fun k _ => ∀ j, j < k → rs.getD j 0 < qs.getD i 0) _ rs.length ?_ ?_ (rs.length - k) k n () (by omega) (by omega) (fun j hj => h3 j hj i (Nat.le_refl _) hi)
    · rintro t' k ⟨⟩ hk hI
      have bq := hb1 _ (getD_mem hi)
      have br := hb2 _ (getD_mem hk)
      rw [m_X1_differences_p16, g.i3, Option.bind_some, if_neg (nI_ge hk (by omega)), g.g2, Option.bind_some, g.sqr hk, Option.bind_some, h.g2, Option.bind_some, h.sqr hi, Option.bind_some]
      by_cases c1 : qs.getD i 0 ≤ rs.getD k 0
      · right
        rw [if_pos ((nI_leI bq br).mpr c1), m_X1_differences_p46, g.i3, Option.bind_some, if_neg (nI_ge hk (by omega)), g.g2, Option.bind_some, g.sqr hk, Option.bind_some, h.g2, Option.bind_some, h.sqr hi, Option.bind_some]
        have hfin : ∀ j, j < k → ∀ m, i + 1 ≤ m → m < qs.length → rs.getD j 0 < qs.getD m 0 := fun j hj m hm1 hm2 => by
          have := hI j hj
          have := asc_get hq (show i < m by omega) hm2
          omega
        by_cases c2 : rs.getD k 0 = qs.getD i 0
        · refine ⟨(c + 1, k), by rw [if_pos (by rw [c2]), nI_1, nI_1], ?_, Nat.le_of_lt hk, hfin⟩
          show c + 1 = _
          rw [take_s hi, com_app, if_pos (by rw [← c2]; exact getD_mem hk), h1]
        · refine ⟨(c, k), by rw [if_neg (fun q => c2 ((nI_eq br bq).mp q)), nI_1], ?_, Nat.le_of_lt hk, hfin⟩
          show c = _
          rw [take_s hi, com_app, if_neg, h1, Nat.add_zero]
          intro q
          obtain ⟨j, hj, ej⟩ := mem_getD q
          rcases Nat.lt_or_ge j k with d | d
          · have := hI j d
            omega
          · rcases Nat.lt_or_ge k j with d2 | d2
            · have := asc_get hr d2 hj
              omega
            · have : j = k := by omega
              subst this
              exact c2 ej
      · left
        refine ⟨(), by rw [if_neg (fun q => c1 ((nI_leI bq br).mp q)), nI_1], fun j hj => ?_⟩
        by_cases e : j = k
        · subst e
          omega
        · exact hI j (by omega)
    · rintro t' ⟨⟩ hI
      refine ⟨(c, rs.length), ?_, ?_, Nat.le_refl _, fun j hj m hm1 hm2 => ?_⟩
      · show m_X1_differences_p16 n _ (t' + 1) w a b (nI c) (nI rs.length) (nI i) = _
        rw [m_X1_differences_p16, g.i3, Option.bind_some, if_pos (Int32.le_refl _), m_X1_differences_p46, g.i3, Option.bind_some, if_pos (Int32.le_refl _), nI_1]
      · show c = _
        rw [take_s hi, com_app, if_neg, h1, Nat.add_zero]
        intro q
        obtain ⟨j, hj, ej⟩ := mem_getD q
        have := hI j hj
        omega
      · have := hI j hj
        have := asc_get hq (show i < m by omega) hm2
        omega) (by
    rintro t ⟨c, k⟩ ⟨h1, h2, h3⟩
    change c = com (qs.take qs.length) rs at h1
    refine ⟨_, ?_, rfl⟩
    show m_X1_differences_p7 n (t + 1) w a b (nI c) (nI k) (nI qs.length) = _
    have e1 := com_le1 (qs := qs) (rs := rs)
    have e2 := com_le2 (rs := rs) hq
    have h1' : c = com qs rs := by
      have := h1
      rw [List.take_length] at this
      exact this
    rw [m_X1_differences_p7, h.i3, Option.bind_some, if_pos (Int32.le_refl _), m_X1_differences_p79, h.i3, Option.bind_some, g.i3, Option.bind_some, nI_add, show (2 : Int32) = nI 2 from rfl, pk_mul, pk_sub (by omega), h1']
    rfl) qs.length 0 n (0, 0) (by omega) (by omega) ⟨rfl, Nat.zero_le _, fun j hj => absurd hj (Nat.not_lt_zero _)⟩
  exact e
end
section
/-! ONE FOREST TO EACH ROW; how many squares a change touches; the class settles -/
theorem node_lt {cs : List Nat} (hc : C12 cs) {q : Nat} (h : isNode cs q) : q < 40000 := by
  rcases h with h | ⟨e, c, d, h1, h2, h3, h4, h5, rfl⟩
  · omega
  · unfold sq
    have : c / 4 ^ e * 4 ^ e ≤ c := Nat.div_mul_le_self _ _
    have := hc c h3
    omega
noncomputable def ndL (cs : List Nat) : List Nat := (List.range 40000).filter fun q => @decide (isNode cs q) (Classical.propDecidable _)
theorem ndL_of {cs : List Nat} (hc : C12 cs) : NodesOf cs (ndL cs) := by
  refine ⟨List.Pairwise.filter _ List.pairwise_lt_range, fun q => ?_⟩
  unfold ndL
  rw [List.mem_filter, List.mem_range, @decide_eq_true_eq (isNode cs q) (Classical.propDecidable _)]
  exact ⟨fun h => h.2, fun h => ⟨node_lt hc h, h⟩⟩
theorem ndL_eq {cs qs : List Nat} (hc : C12 cs) (h : NodesOf cs qs) : qs = ndL cs := asc_ext h.1 (ndL_of hc).1 fun q => (h.2 q).trans ((ndL_of hc).2 q).symm
theorem ndL_mem {cs ds : List Nat} (hc : C12 cs) (hd : C12 ds) (h : ∀ c, c ∈ cs ↔ c ∈ ds) : ndL cs = ndL ds := asc_ext (ndL_of hc).1 (ndL_of hd).1 fun q => by
  rw [(ndL_of hc).2, (ndL_of hd).2]
  exact ⟨node_mono fun c hc => (h c).mp hc, node_mono fun c hc => (h c).mpr hc⟩
/-- the codes on a level, in the order of the ids; the level's nodes -/
def onS (S : Nat → Int32) (l : Nat) : List Nat := (idsS S 24).filter fun i => decide (l ≤ hgt i)
def cdS (S : Nat → Int32) (l : Nat) : List Nat := (onS S l).map (codeS S)
noncomputable def nds (S : Nat → Int32) (l : Nat) : List Nat := ndL (cdS S l)
theorem onS_mem {S : Nat → Int32} {l i : Nat} : i ∈ onS S l ↔ i < 24 ∧ S (5 * i) ≠ 0 ∧ l ≤ hgt i := by
  unfold onS
  rw [List.mem_filter, idsS_mem, decide_eq_true_eq, and_assoc]
theorem cdS_12 {S : Nat → Int32} (hw : WF S) {l : Nat} : C12 (cdS S l) := by
  intro c hc
  obtain ⟨i, hi, rfl⟩ := List.mem_map.mp hc
  obtain ⟨x, y, -, -, -, -, -, h⟩ := codeS_at (hw.1 i (onS_mem.mp hi).1)
  exact h
theorem cs_perm {S : Nat → Int32} {es : List Nat} (h : EsOf S 24 es) {l : Nat} : List.Perm (CsOf es l) (cdS S l) := by
  unfold CsOf cdS onS
  refine ((h.2.filter _).map _).trans ?_
  rw [List.filter_map, List.map_map]
  have e1 : (idsS S 24).filter ((fun e => decide (l ≤ hgt (e % 32))) ∘ ent S) = (idsS S 24).filter fun i => decide (l ≤ hgt i) := by
    refine List.filter_congr fun i hi => ?_
    have := (idsS_mem.mp hi).1
    show decide (l ≤ hgt (ent S i % 32)) = _
    rw [show ent S i % 32 = i by unfold ent; omega]
  rw [e1]
  have e2 : ((idsS S 24).filter fun i => decide (l ≤ hgt i)).map ((fun x => x / 32) ∘ ent S) = ((idsS S 24).filter fun i => decide (l ≤ hgt i)).map (codeS S) := by
    refine List.map_congr_left fun i hi => ?_
    have := (idsS_mem.mp (List.mem_filter.mp hi).1).1
    show ent S i / 32 = _
    unfold ent
    omega
  rw [e2]
theorem FoC.lev {w : Wd} {a : Nat} {S : Nat → Int32} (h : FoC w a S) (hw : WF S) {l : Nat} (hl : l < 5) : ∃ cs, LvC w (a + 3 + 3 * l) cs (nds S l) ∧ List.Perm cs (cdS S l) ∧ Srt cs ∧ C12 cs ∧ NodesOf cs (nds S l) := by
  obtain ⟨h1, es, h2, h3, h4⟩ := h
  obtain ⟨qs, k1, k2⟩ := h4 l hl
  have hc : C12 (CsOf es l) := CsOf_12 fun q hq => h3.lt hw (Nat.le_refl _) hq
  have e : qs = nds S l := (ndL_eq hc k2).trans (ndL_mem hc (cdS_12 hw) fun c => (cs_perm h3).mem_iff)
  rw [e] at k1 k2
  exact ⟨_, k1, cs_perm h3, CsOf_srt h3.1, hc, k2⟩
noncomputable def touK (S S' : Nat → Int32) : Nat → Nat
  | 0 => 0
  | k + 1 => touK S S' k + dif (nds S k) (nds S' k)
theorem m_fdiff {n : Nat} (hn : 80 ≤ n) {w : Wd} {a b : Nat} {S S' : Nat → Int32} (h : FoC w a S) (g : FoC w b S') (hw : WF S) (hw' : WF S') : m_X0_differences n w a b = some (nI (touK S S' 5)) := by
  unfold m_X0_differences
  obtain ⟨v, e, rfl⟩ := lp (σ := Unit) (R := Int32) (fun t k _ => m_X0_differences_p4 n t w a b (nI (touK S S' k)) (nI k)) (fun _ _ => True) (fun v => v = nI (touK S S' 5)) 5 (by
    rintro t k ⟨⟩ hk -
    left
    obtain ⟨cs, a1, a2, a3, a4, a5⟩ := h.lev hw hk
    obtain ⟨ds, b1, b2, b3, b4, b5⟩ := g.lev hw' hk
    refine ⟨(), ?_, trivial⟩
    rw [m_X0_differences_p4, if_neg (show ¬ (5 : Int32) ≤ nI k from nI_ge hk (by decide)), h.1.lv hk, g.1.lv hk, a1.c, Option.bind_some, m_ldiff (by omega) a1 b1 a5.1 b5.1 (fun q hq => by have := node_lt a4 ((a5.2 q).mp hq); omega) (fun q hq => by have := node_lt b4 ((b5.2 q).mp hq); omega), Option.bind_some, nI_add, nI_1]
    rfl) (by
    rintro t ⟨⟩ -
    exact ⟨_, by rw [m_X0_differences_p4, if_pos (by decide)], rfl⟩) 5 0 n () rfl (by omega) trivial
  exact e
def ObC (w : Wd) (h fo sp : Nat) : Prop := w h = some (.inr (5, [.ref (h + 1), .ref (h + 10), .ref (h + 48), .ref fo, .ref sp]))
theorem m_settle {n : Nat} (hn : 80 ≤ n) {w : Wd} {h fo sp : Nat} {S S' : Nat → Int32} (ho : ObC w h fo sp) (hf : FoC w fo S) (hx : FoX w sp) (hs : StW w (h + 1) S') (hw : WF S) (hw' : WF S') (h1 : h + 9 < sp) (h2 : fo + 17 < sp ∨ sp + 17 < fo) (h3 : h + 9 < fo) :
    ∃ w', m_X6_settle n w h = some (nI (touK S S' 5), w') ∧ ObC w' h sp fo ∧ FoC w' sp S' ∧ FoC w' fo S ∧ ∀ q, q ≠ h → (q < sp ∨ sp + 17 < q) → w' q = w q := by
  obtain ⟨w1, e1, g1, q1⟩ := m_plant hn hx hs hw' (by omega)
  have g2 : FoC w1 fo S := hf.frame fun q a b => q1 q (by omega)
  have o1 : ObC w1 h fo sp := by unfold ObC; rw [q1 _ (by omega)]; exact ho
  generalize hw2 : wup (wup w1 h (.inr (5, [.ref (h + 1), .ref (h + 10), .ref (h + 48), .ref sp, .ref sp]))) h (.inr (5, [.ref (h + 1), .ref (h + 10), .ref (h + 48), .ref sp, .ref fo])) = w2
  have o2 : ∀ q, q ≠ h → w2 q = w1 q := fun q hq => by rw [← hw2, wup_ne hq, wup_ne hq]
  refine ⟨w2, ?_, by unfold ObC; rw [← hw2, wup_self], g1.frame fun q a b => o2 q (by omega), g2.frame fun q a b => o2 q (by omega), fun q hq hq2 => (o2 q hq).trans (q1 q hq2)⟩
  rw [m_X6_settle, gfR_at ho rfl, Option.bind_some, gfR_at ho rfl, Option.bind_some, chk_at hx.1.1, Option.bind_some, e1, Option.bind_some, gfR_at o1 rfl, Option.bind_some, gfR_at o1 rfl, Option.bind_some, chk_at g2.1.1, Option.bind_some, m_fdiff hn g2 g1 hw hw', Option.bind_some, Option.bind_some, Option.bind_some, pfV_at o1 (Nat.le_of_ble_eq_true rfl), Option.bind_some, pfV_at wup_self (Nat.le_of_ble_eq_true rfl), Option.bind_some]
  simp only [List.set_cons_succ, List.set_cons_zero]
  rw [hw2]
end
section
/-! THE REFERENCE ENTERS A SQUARE -/
def Tb (A : Rw) (r c l : Nat) (qs : List Nat) : Prop := A c l = nI qs.length ∧ ∀ i, i < qs.length → A r (32 * l + i) = nI (qs.getD i 0)
theorem e32 (l k : Nat) : (32 : Int32) * nI l + nI k = nI (32 * l + k) := by
  rw [show (32 : Int32) = nI 32 from rfl, pk_mul, nI_add]
/-- what entering leaves alone -/
def Oth (A A' : Rw) (l : Nat) : Prop := (∀ j i, j ≠ 4 → j ≠ 5 → A' j i = A j i) ∧ (∀ i, i < 32 * l ∨ 32 * l + 32 ≤ i → A' 4 i = A 4 i) ∧ ∀ m, m ≠ l → A' 5 m = A 5 m
theorem Oth.trans {A B C : Rw} {l : Nat} (h : Oth A B l) (g : Oth B C l) : Oth A C l := ⟨fun j i a b => (g.1 j i a b).trans (h.1 j i a b), fun i a => (g.2.1 i a).trans (h.2.1 i a), fun m a => (g.2.2 m a).trans (h.2.2 m a)⟩
end
section
/-! WHAT THE REFERENCE READS OF ITS ROW -/
def Row (A : Rw) (S : Nat → Int32) : Prop := ∀ i, i < 141 → A 0 i = S i
theorem e5 (i : Nat) : (5 : Int32) * nI i = nI (5 * i) := by rw [show (5 : Int32) = nI 5 from rfl, pk_mul]
theorem e5k (i k : Nat) : (5 : Int32) * nI i + nI k = nI (5 * i + k) := by rw [e5, nI_add]
section RD
variable {n : Nat} {w : Wd} {b i l : Nat} {I : Nat → Int32} {J : Nat → Int64} {A : Rw} {S : Nat → Int32}
end RD
theorem spn_le (c d : Nat) : spn c d ≤ 6 := by
  unfold spn
  repeat' split
  all_goals omega
/-- the square that a pair of different places enters -/
theorem m_sqpair {c d : Nat} (hc : c < 4096) : (8 * (nI c >>> ((2 * nI (spn c d)) &&& 31 : Int32) <<< ((2 * nI (spn c d)) &&& 31 : Int32))) + 6 - nI (spn c d) = nI (sq c (spn c d)) := by
  have hs := spn_le c d
  have h : c / 4 ^ spn c d * 4 ^ spn c d ≤ c := Nat.div_mul_le_self _ _
  unfold sq
  rw [shr2 (lt31 hc) hs, shl2 hs (by omega), show (8 : Int32) = nI 8 from rfl, pk_mul, show (6 : Int32) = nI 6 from rfl, nI_add, pk_sub (by omega), Nat.mul_comm 8]
theorem spn_key {c d : Nat} (hc : c < 4096) (hd : d < 4096) (hne : c ≠ d) : ∃ e, 1 ≤ e ∧ e ≤ 6 ∧ spn c d = e ∧ spl e c d := by
  by_cases a1 : c / 4 = d / 4
  · exact ⟨1, by decide, by decide, by simp [spn, hne, a1], by simpa using a1, by simpa using hne⟩
  by_cases a2 : c / 16 = d / 16
  · exact ⟨2, by decide, by decide, by simp [spn, hne, a1, a2], by simpa using a2, by simpa using a1⟩
  by_cases a3 : c / 64 = d / 64
  · exact ⟨3, by decide, by decide, by simp [spn, hne, a1, a2, a3], by simpa using a3, by simpa using a2⟩
  by_cases a4 : c / 256 = d / 256
  · exact ⟨4, by decide, by decide, by simp [spn, hne, a1, a2, a3, a4], by simpa using a4, by simpa using a3⟩
  by_cases a5 : c / 1024 = d / 1024
  · exact ⟨5, by decide, by decide, by simp [spn, hne, a1, a2, a3, a4, a5], by simpa using a5, by simpa using a4⟩
  · refine ⟨6, by decide, by decide, by simp [spn, hne, a1, a2, a3, a4, a5], ?_, by simpa using a5⟩
    show c / 4096 = d / 4096
    omega
theorem sq_pair_node {cs : List Nat} {c d : Nat} (h1 : c ∈ cs) (h2 : d ∈ cs) (hc : c < 4096) (hd : d < 4096) (hne : c ≠ d) : isNode cs (sq c (spn c d)) := by
  obtain ⟨e, e1, e2, e3, e4⟩ := spn_key hc hd hne
  rw [e3]
  by_cases h6 : e = 6
  · left
    subst h6
    show c / 4096 * 4096 * 8 + 6 - 6 = 0
    omega
  · exact Or.inr ⟨e, c, d, e1, by omega, h1, h2, e4, rfl⟩
end
section
/-! THE REFERENCE LAYS ITS TABLES -/
theorem esOf_ex (S : Nat → Int32) : ∀ k, k ≤ 24 → ∃ es, EsOf S k es := by
  intro k
  induction k with
  | zero => exact fun _ => ⟨[], List.Pairwise.nil, List.Perm.refl _⟩
  | succ k ih =>
    intro hk
    obtain ⟨es, h3⟩ := ih (by omega)
    by_cases hz : S (5 * k) = 0
    · refine ⟨es, ?_⟩
      unfold EsOf
      rw [idsS_succ, if_neg (fun q => q hz), List.append_nil]
      exact h3
    · have hne : ent S k ∉ es := fun q => by
        obtain ⟨i, i1, i2, i3⟩ := h3.mem.mp q
        unfold ent at i3
        omega
      obtain ⟨m, hm, hl⟩ := pk_least (fun m => es.length ≤ m ∨ ent S k < es.getD m 0) ⟨es.length, Or.inl (Nat.le_refl _)⟩
      have hm2 : m ≤ es.length := Nat.not_lt.mp fun g => hl es.length g (Or.inl (Nat.le_refl _))
      refine ⟨insAt es m (ent S k), insAt_asc h3.1 hm2 (fun i hi => ?_) (fun i hi hi2 => ?_), ?_⟩
      · have g := hl i hi
        have g1 : es.getD i 0 ∈ es := getD_mem (by omega)
        have g2 : es.getD i 0 ≠ ent S k := fun q => hne (q ▸ g1)
        have g3 : ¬ ent S k < es.getD i 0 := fun q => g (Or.inr q)
        omega
      · have g3 : ent S k < es.getD m 0 := hm.resolve_left (by omega)
        rcases Nat.lt_or_ge m i with y | y
        · have := asc_get h3.1 y hi2
          omega
        · have : i = m := by omega
          rw [this]
          exact g3
      · rw [idsS_succ, if_pos hz, List.map_append]
        exact insAt_perm.trans ((List.Perm.cons _ h3.2).trans (List.perm_append_comm (l₁ := [ent S k])))
theorem nd_len {S : Nat → Int32} {l : Nat} {qs : List Nat} (ha : Asc qs) (h : ∀ q ∈ qs, isNode (cdS S l) q) : qs.length ≤ 24 := by
  obtain ⟨es, he⟩ := esOf_ex S 24 (Nat.le_refl _)
  have := node_len (CsOf_srt (l := l) he.1) ha fun q hq => node_mono (fun c hc => (cs_perm he).mem_iff.mpr hc) (h q hq)
  have h1 := CsOf_len (es := es) (l := l)
  have h2 := he.len
  omega
/-- the squares entered so far -/
def ent2 (S : Nat → Int32) (l i j x : Nat) : Prop := x = 0 ∨ ∃ p q, (p < i ∨ p = i ∧ q < j) ∧ q < p ∧ p ∈ onS S l ∧ q ∈ onS S l ∧ codeS S p ≠ codeS S q ∧ x = sq (codeS S p) (spn (codeS S p) (codeS S q))
theorem cdS_mem {S : Nat → Int32} {l i : Nat} (h : i ∈ onS S l) : codeS S i ∈ cdS S l := List.mem_map.mpr ⟨i, h, rfl⟩
theorem ent2_node {S : Nat → Int32} (hw : WF S) {l i j x : Nat} (h : ent2 S l i j x) : isNode (cdS S l) x := by
  rcases h with h | ⟨p, q, -, -, hp, hq, hne, rfl⟩
  · exact Or.inl h
  · exact sq_pair_node (cdS_mem hp) (cdS_mem hq) (cdS_12 hw _ (cdS_mem hp)) (cdS_12 hw _ (cdS_mem hq)) hne
theorem spn_comm (c d : Nat) : spn c d = spn d c := by
  unfold spn
  simp only [eq_comm]
theorem ent2_all {S : Nat → Int32} (hw : WF S) {l x : Nat} (h : isNode (cdS S l) x) : ent2 S l 24 0 x := by
  rcases h with h | ⟨e, c, d, h1, h2, hc, hd, hs, rfl⟩
  · exact Or.inl h
  · obtain ⟨p, hp, rfl⟩ := List.mem_map.mp hc
    obtain ⟨q, hq, rfl⟩ := List.mem_map.mp hd
    have hne : codeS S p ≠ codeS S q := fun y => hs.2 (by rw [y])
    have he := spl_spn h1 h2 hs
    have hpq : p ≠ q := fun y => hne (by rw [y])
    have p24 := (onS_mem.mp hp).1
    have q24 := (onS_mem.mp hq).1
    rcases Nat.lt_or_ge q p with g | g
    · exact Or.inr ⟨p, q, Or.inl p24, g, hp, hq, hne, by rw [he]⟩
    · refine Or.inr ⟨q, p, Or.inl q24, by omega, hq, hp, fun y => hne y.symm, ?_⟩
      rw [spn_comm, he]
      exact sq_cong hs.1
end
section
/-! THE LOOPS OF lays -/
theorem ins_ex {es : List Nat} {x : Nat} (h : Asc es) (hne : x ∉ es) : ∃ es', Asc es' ∧ List.Perm es' (x :: es) := by
  obtain ⟨m, hm, hl⟩ := pk_least (fun m => es.length ≤ m ∨ x < es.getD m 0) ⟨es.length, Or.inl (Nat.le_refl _)⟩
  have hm2 : m ≤ es.length := Nat.not_lt.mp fun g => hl es.length g (Or.inl (Nat.le_refl _))
  refine ⟨insAt es m x, insAt_asc h hm2 (fun i hi => ?_) (fun i hi hi2 => ?_), insAt_perm⟩
  · have g := hl i hi
    have g1 : es.getD i 0 ∈ es := getD_mem (by omega)
    have g2 : es.getD i 0 ≠ x := fun q => hne (q ▸ g1)
    have g3 : ¬ x < es.getD i 0 := fun q => g (Or.inr q)
    omega
  · have g3 : x < es.getD m 0 := hm.resolve_left (by omega)
    rcases Nat.lt_or_ge m i with y | y
    · have := asc_get h y hi2
      omega
    · have : i = m := by omega
      rw [this]
      exact g3
theorem nd_room {S : Nat → Int32} {l q : Nat} {es : List Nat} (ha : Asc es) (h : ∀ x ∈ es, isNode (cdS S l) x) (hq : isNode (cdS S l) q) : es.length < 24 ∨ q ∈ es ∧ es.length ≤ 24 := by
  by_cases c : q ∈ es
  · exact Or.inr ⟨c, nd_len ha h⟩
  · left
    obtain ⟨es', a1, a2⟩ := ins_ex ha c
    have := nd_len (S := S) (l := l) a1 fun x hx => by
      rcases List.mem_cons.mp (a2.mem_iff.mp hx) with e | e
      · rw [e]; exact hq
      · exact h x e
    rw [a2.length_eq, List.length_cons] at this
    omega
end
section
/-! THE REFERENCE'S TABLES ARE THE NODES -/
theorem nds_of {S : Nat → Int32} (hw : WF S) (l : Nat) : NodesOf (cdS S l) (nds S l) := ndL_of (cdS_12 hw)
theorem nds_len {S : Nat → Int32} (hw : WF S) (l : Nat) : (nds S l).length ≤ 24 := nd_len (nds_of hw l).1 fun q hq => ((nds_of hw l).2 q).mp hq
theorem Tb.oth {A A' : Rw} {l m : Nat} {qs : List Nat} (h : Tb A 4 5 m qs) (ho : Oth A A' l) (hne : m ≠ l) (hl : qs.length ≤ 24) : Tb A' 4 5 m qs :=
  ⟨(ho.2.2 m hne).trans h.1, fun i hi => (ho.2.1 _ (by omega)).trans (h.2 i hi)⟩
end
