/-! THE SORTED POINTS OF A ROW -/
theorem lpk {σ τ R : Type} (L : Nat → Nat → σ → R) (fin : τ → R) (I : Nat → σ → Prop) (P : τ → Prop) (b : Nat)
    (hs : ∀ t k s, k < b → I k s → (∃ s', L (t + 1) k s = L t (k + 1) s' ∧ I (k + 1) s') ∨ ∃ r, L (t + 1) k s = fin r ∧ P r)
    (he : ∀ t s, I b s → ∃ r, L (t + 1) b s = fin r ∧ P r) : ∀ (d k t : Nat) (s : σ), k + d = b → d < t → I k s → ∃ r, L t k s = fin r ∧ P r := by
  intro d
  induction d with
  | zero =>
    intro k t s h1 h2 h3
    obtain ⟨t, rfl⟩ : ∃ u, t = u + 1 := ⟨t - 1, by omega⟩
    have : k = b := by omega
    subst this
    exact he t s h3
  | succ d ih =>
    intro k t s h1 h2 h3
    obtain ⟨t, rfl⟩ : ∃ u, t = u + 1 := ⟨t - 1, by omega⟩
    rcases hs t k s (by omega) h3 with ⟨s', e, h⟩ | h
    · rw [e]
      exact ih (k + 1) t s' (by omega) (by omega) h
    · exact h
def codeS (S : Nat → Int32) (i : Nat) : Nat := codeN (S (5 * i + 1)).toNatClampNeg (S (5 * i + 2)).toNatClampNeg
theorem codeS_at {S : Nat → Int32} {i : Nat} (h : WFp S i) : ∃ x y, x < 64 ∧ y < 64 ∧ S (5 * i + 1) = nI x ∧ S (5 * i + 2) = nI y ∧ codeS S i = codeN x y ∧ codeS S i < 4096 := by
  obtain ⟨-, ⟨x, hx, ex⟩, ⟨y, hy, ey⟩, -⟩ := h
  have e : codeS S i = codeN x y := by
    unfold codeS
    rw [ex, ey, nI_clamp (by omega), nI_clamp (by omega)]
  exact ⟨x, y, hx, hy, ex, ey, e, by rw [e]; exact (code6_all x hx y hy).2⟩
def ent (S : Nat → Int32) (i : Nat) : Nat := codeS S i * 32 + i
def idsS (S : Nat → Int32) (k : Nat) : List Nat := (List.range k).filter fun i => decide (S (5 * i) ≠ 0)
theorem idsS_succ {S : Nat → Int32} {k : Nat} : idsS S (k + 1) = idsS S k ++ if S (5 * k) ≠ 0 then [k] else [] := by
  unfold idsS
  rw [List.range_succ, List.filter_append]
  congr 1
  by_cases h : S (5 * k) = 0 <;> simp [h]
theorem idsS_mem {S : Nat → Int32} {k i : Nat} : i ∈ idsS S k ↔ i < k ∧ S (5 * i) ≠ 0 := by
  unfold idsS
  rw [List.mem_filter, List.mem_range, decide_eq_true_eq]
def EsOf (S : Nat → Int32) (k : Nat) (es : List Nat) : Prop := Asc es ∧ List.Perm es ((idsS S k).map (ent S))
theorem EsOf.mem {S : Nat → Int32} {k : Nat} {es : List Nat} (h : EsOf S k es) {q : Nat} : q ∈ es ↔ ∃ i, i < k ∧ S (5 * i) ≠ 0 ∧ q = ent S i := by
  rw [h.2.mem_iff, List.mem_map]
  exact ⟨fun ⟨i, h1, h2⟩ => ⟨i, (idsS_mem.mp h1).1, (idsS_mem.mp h1).2, h2.symm⟩, fun ⟨i, h1, h2, h3⟩ => ⟨i, idsS_mem.mpr ⟨h1, h2⟩, h3.symm⟩⟩
theorem EsOf.len {S : Nat → Int32} {k : Nat} {es : List Nat} (h : EsOf S k es) : es.length ≤ k := by
  rw [h.2.length_eq, List.length_map]
  have := List.length_filter_le (fun i => decide (S (5 * i) ≠ 0)) (List.range k)
  rw [List.length_range] at this
  exact this
theorem EsOf.lt {S : Nat → Int32} {k : Nat} {es : List Nat} (h : EsOf S k es) (hw : WF S) (hk : k ≤ 24) {q : Nat} (hq : q ∈ es) : q < 131072 := by
  obtain ⟨i, h1, h2, rfl⟩ := h.mem.mp hq
  obtain ⟨x, y, -, -, -, -, -, hc⟩ := codeS_at (hw.1 i (by omega))
  unfold ent
  omega
theorem m_sort {n : Nat} (hn : 60 ≤ n) {w : Wd} {a b : Nat} {es0 : List Nat} {S : Nat → Int32} (h : w a = some (.inr (0, [.ref (a + 1), .ref (a + 2)]))) (h2 : ∃ f, w (a + 2) = some (.inl (0, 24, .inl f))) (hs : StW w b S) (hw : WF S) (hab : b + 8 < a) :
    ∃ r, m_X0_sortPoints n w a b = some r ∧ (∃ es, r.1 = nI es.length ∧ SoC r.2 a es ∧ EsOf S 24 es) ∧ ∀ q, q ≠ a + 2 → r.2 q = w q := by
  obtain ⟨F, tt, hF, hR⟩ := hs
  obtain ⟨f, hf⟩ := h2
  unfold m_X0_sortPoints
  refine lp (σ := Int32 × Wd) (R := Int32 × Wd) (fun t k s => m_X0_sortPoints_p4 n t s.2 a b s.1 (nI k)) (fun k s => (∃ es, s.1 = nI es.length ∧ SoC s.2 a es ∧ EsOf S k es) ∧ ∀ q, q ≠ a + 2 → s.2 q = w q) (fun r => (∃ es, r.1 = nI es.length ∧ SoC r.2 a es ∧ EsOf S 24 es) ∧ ∀ q, q ≠ a + 2 → r.2 q = w q) 24 ?_ ?_ 24 0 n (0, w) rfl (by omega) ⟨⟨[], rfl, ⟨h, f, hf, fun i hi => absurd hi (Nat.not_lt_zero _)⟩, List.Pairwise.nil, List.Perm.refl _⟩, fun _ _ => rfl⟩
  · rintro t k ⟨c, v⟩ hk ⟨⟨es, e1, h1, h3⟩, hq⟩
    subst e1
    have g : StC v b tt F := hF.frame fun q a1 a2 => hq q (by omega)
    left
    show ∃ s', m_X0_sortPoints_p4 n (t + 1) v a b (nI es.length) (nI k) = _ ∧ _
    rw [m_X0_sortPoints_p4, if_neg (show ¬ (24 : Int32) ≤ nI k from nI_ge hk (by decide)), rd0 g hk, hR.1 0 k (by decide) hk, Nat.add_zero]
    by_cases hz : S (5 * k) = 0
    · rw [if_pos hz]
      refine ⟨(nI es.length, v), by rw [nI_1], ⟨es, rfl, h1, ?_⟩, hq⟩
      unfold EsOf
      rw [idsS_succ, if_neg (fun q => q hz), List.append_nil]
      exact h3
    · obtain ⟨x, y, hx, hy, ex, ey, ec, hc⟩ := codeS_at (hw.1 k hk)
      have hne : ent S k ∉ es := fun q => by
        obtain ⟨i, i1, i2, i3⟩ := h3.mem.mp q
        unfold ent at i3
        omega
      have hl := h3.len
      obtain ⟨v2, e2, ⟨es2, s1, s2, s3⟩, q2⟩ := m_insert (n := n) (x := ent S k) (by omega) h1 h3.1 (by omega) (by unfold ent; omega) (fun q hq1 => by have := h3.lt hw (by omega) hq1; omega) hne
      have hl2 : es2.length = es.length + 1 := by rw [s3.length_eq, List.length_cons]
      refine ⟨(nI (es.length + 1), v2), ?_, ⟨es2, by rw [hl2], s1, s2, ?_⟩, fun q hq1 => (q2 q hq1).trans (hq q hq1)⟩
      · rw [if_neg hz, rd1 g hk, hR.1 1 k (by decide) hk, rd2 g hk, hR.1 2 k (by decide) hk, ex, ey, (code6_all x hx y hy).1, ← ec, chk_at h1.1, Option.bind_some, show (32 : Int32) = nI 32 from rfl, pk_mul, nI_add, show codeS S k * 32 + k = ent S k from rfl, e2, Option.bind_some, nI_1, nI_1]
      · rw [idsS_succ, if_pos hz, List.map_append]
        exact s3.trans ((List.Perm.cons _ h3.2).trans (List.perm_append_comm (l₁ := [ent S k])))
  · rintro t ⟨c, v⟩ ⟨⟨es, e1, h1, h3⟩, hq⟩
    refine ⟨(c, v), ?_, ⟨es, e1, h1, h3⟩, hq⟩
    show m_X0_sortPoints_p4 n (t + 1) v a b c (nI 24) = _
    rw [m_X0_sortPoints_p4, if_pos (by decide)]
