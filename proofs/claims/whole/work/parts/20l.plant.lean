/-! THE CLASS PLANTS A FOREST -/
def FoG (w : Wd) (a : Nat) : Prop := w a = some (.inr (0, [.ref (a + 1), .ref (a + 2)])) ∧ ∃ f, w (a + 1) = some (.inl (3, 5, .inr (.inr (.inr (.inr f))))) ∧ ∀ k, k < 5 → f k = some (a + 3 + 3 * k)
def FoX (w : Wd) (a : Nat) : Prop := FoG w a ∧ (∃ f, w (a + 2) = some (.inl (0, 24, .inl f))) ∧ ∀ l, l < 5 → ∃ cs qs, LvC w (a + 3 + 3 * l) cs qs
def CsOf (es : List Nat) (l : Nat) : List Nat := (es.filter fun e => decide (l ≤ hgt (e % 32))).map (· / 32)
def FoC (w : Wd) (a : Nat) (S : Nat → Int32) : Prop := FoG w a ∧ ∃ es, SoC w a es ∧ EsOf S 24 es ∧ ∀ l, l < 5 → ∃ qs, LvC w (a + 3 + 3 * l) (CsOf es l) qs ∧ NodesOf (CsOf es l) qs
theorem FoC.x {w : Wd} {a : Nat} {S : Nat → Int32} (h : FoC w a S) : FoX w a := by
  obtain ⟨h1, es, h2, h3, h4⟩ := h
  obtain ⟨-, f, h5, -⟩ := h2
  exact ⟨h1, ⟨f, h5⟩, fun l hl => by obtain ⟨qs, g, -⟩ := h4 l hl; exact ⟨_, qs, g⟩⟩
theorem FoG.frame {w w' : Wd} {a : Nat} (h : FoG w a) (hq : ∀ q, a ≤ q → q ≤ a + 2 → w' q = w q) : FoG w' a := by
  obtain ⟨h1, f, h2, h3⟩ := h
  exact ⟨by rw [hq _ (by omega) (by omega)]; exact h1, f, by rw [hq _ (by omega) (by omega)]; exact h2, h3⟩
theorem SoC.frame {w w' : Wd} {a : Nat} {es : List Nat} (h : SoC w a es) (hq : ∀ q, a ≤ q → q ≤ a + 2 → w' q = w q) : SoC w' a es := by
  obtain ⟨h1, f, h2, h3⟩ := h
  exact ⟨by rw [hq _ (by omega) (by omega)]; exact h1, f, by rw [hq _ (by omega) (by omega)]; exact h2, h3⟩
theorem FoX.frame {w w' : Wd} {a : Nat} (h : FoX w a) (hq : ∀ q, a ≤ q → q ≤ a + 17 → w' q = w q) : FoX w' a := by
  obtain ⟨h1, ⟨f, h2⟩, h3⟩ := h
  refine ⟨h1.frame fun q a b => hq q a (by omega), ⟨f, by rw [hq _ (by omega) (by omega)]; exact h2⟩, fun l hl => ?_⟩
  obtain ⟨cs, qs, g⟩ := h3 l hl
  exact ⟨cs, qs, g.frame fun q a b => hq q (by omega) (by omega)⟩
theorem FoC.frame {w w' : Wd} {a : Nat} {S : Nat → Int32} (h : FoC w a S) (hq : ∀ q, a ≤ q → q ≤ a + 17 → w' q = w q) : FoC w' a S := by
  obtain ⟨h1, es, h2, h3, h4⟩ := h
  refine ⟨h1.frame fun q a b => hq q a (by omega), es, h2.frame fun q a b => hq q a (by omega), h3, fun l hl => ?_⟩
  obtain ⟨qs, g, k⟩ := h4 l hl
  exact ⟨qs, g.frame fun q a b => hq q (by omega) (by omega), k⟩
theorem FoG.lv {R : Type} {w : Wd} {a l : Nat} {f : Nat → Option R} (h : FoG w a) (hl : l < 5) : ((gfR 0 0 w a).bind fun q => (agQ 3 w q (nI l)).bind f) = f (a + 3 + 3 * l) := by
  obtain ⟨h1, g, h2, h3⟩ := h
  rw [gfR_at h1 rfl, Option.bind_some, agQ_at h2 hl (by decide), h3 l hl, Option.bind_some]
theorem CsOf_app {es : List Nat} {e l : Nat} : CsOf (es ++ [e]) l = CsOf es l ++ if l ≤ hgt (e % 32) then [e / 32] else [] := by
  unfold CsOf
  rw [List.filter_append, List.map_append]
  congr 1
  by_cases h : l ≤ hgt (e % 32) <;> simp [h]
theorem CsOf_len {es : List Nat} {l : Nat} : (CsOf es l).length ≤ es.length := by
  unfold CsOf
  rw [List.length_map]
  exact List.length_filter_le _ _
theorem CsOf_srt {es : List Nat} {l : Nat} (h : Asc es) : Srt (CsOf es l) := by
  unfold CsOf Srt
  rw [List.pairwise_map]
  exact (List.Pairwise.filter _ h).imp fun q => Nat.div_le_div_right (Nat.le_of_lt q)
theorem CsOf_12 {es : List Nat} {l : Nat} (h : ∀ q ∈ es, q < 131072) : C12 (CsOf es l) := by
  intro c hc
  obtain ⟨e, he, rfl⟩ := List.mem_map.mp hc
  have := h e (List.mem_filter.mp he).1
  omega
theorem take_s {es : List Nat} {k : Nat} (hk : k < es.length) : es.take (k + 1) = es.take k ++ [es.getD k 0] := by
  rw [List.take_succ, List.getD_eq_getElem?_getD, List.getElem?_eq_getElem hk]
  rfl
theorem m_plant {n : Nat} (hn : 80 ≤ n) {w : Wd} {a b : Nat} {S : Nat → Int32} (h : FoX w a) (hs : StW w b S) (hw : WF S) (hab : b + 8 < a) :
    ∃ w', m_X0_plant n w a b = some w' ∧ FoC w' a S ∧ ∀ q, (q < a ∨ a + 17 < q) → w' q = w q := by
  obtain ⟨hg, hf, hl⟩ := h
  obtain ⟨r, e1, ⟨es, er, hso, hes⟩, q1⟩ := m_sort (n := n) (es0 := []) (by omega) hg.1 hf hs hw hab
  have hlen : es.length ≤ 24 := hes.len
  have hbd : ∀ q ∈ es, q < 131072 := fun q hq => hes.lt hw (Nat.le_refl _) hq
  have hg1 : FoG r.2 a := by
    obtain ⟨g1, f, g2, g3⟩ := hg
    exact ⟨by rw [q1 _ (by omega)]; exact g1, f, by rw [q1 _ (by omega)]; exact g2, g3⟩
  have G : ∀ v : Wd, (∀ q, (q < a + 3 ∨ a + 17 < q) → v q = r.2 q) → FoG v a ∧ SoC v a es := fun v hv => ⟨hg1.frame fun q a b => hv q (by omega), hso.frame fun q a b => hv q (by omega)⟩
  have main : ∃ w', m_X0_plant_p8 n n r.2 a (nI es.length) (nI 0) = some w' ∧ ((∀ l, l < 5 → ∃ qs, LvC w' (a + 3 + 3 * l) (CsOf es l) qs ∧ NodesOf (CsOf es l) qs) ∧ ∀ q, (q < a + 3 ∨ a + 17 < q) → w' q = r.2 q) := by
    refine lp (σ := Wd) (fun t k v => m_X0_plant_p8 n t v a (nI es.length) (nI k)) (fun k v => (∀ l, l < 5 → ∃ cs qs, LvC v (a + 3 + 3 * l) cs qs ∧ (l < k → cs = [] ∧ qs = [0])) ∧ ∀ q, (q < a + 3 ∨ a + 17 < q) → v q = r.2 q) _ 5 ?_ ?_ 5 0 n r.2 rfl (by omega) ⟨fun l hl5 => ?_, fun _ _ => rfl⟩
    · rintro t k v hk ⟨h1, hq⟩
      left
      obtain ⟨g1, g2⟩ := G v hq
      obtain ⟨cs, qs, k1, -⟩ := h1 k hk
      obtain ⟨v2, e2, k2, q2⟩ := m_lclear (n := n) k1
      refine ⟨v2, ?_, fun l hl5 => ?_, fun q hq1 => (q2 q (by omega)).trans (hq q hq1)⟩
      · show m_X0_plant_p8 n (t + 1) v a (nI es.length) (nI k) = _
        rw [m_X0_plant_p8, if_neg (show ¬ (5 : Int32) ≤ nI k from nI_ge hk (by decide)), g1.lv hk, k1.c, Option.bind_some, e2, Option.bind_some, nI_1]
      · by_cases c : l = k
        · subst c
          exact ⟨_, _, k2, fun _ => ⟨rfl, rfl⟩⟩
        · obtain ⟨cs', qs', k3, k4⟩ := h1 l hl5
          exact ⟨cs', qs', k3.frame fun q a1 a2 => q2 q (by omega), fun x => k4 (by omega)⟩
    · rintro t v ⟨h1, hq⟩
      show ∃ r', m_X0_plant_p8 n (t + 1) v a (nI es.length) (nI 5) = some r' ∧ _
      rw [m_X0_plant_p8, if_pos (by decide), m_X0_plant_p28]
      refine lp (σ := Wd) (fun t k v => m_X0_plant_p30 n t v a (nI es.length) (nI k)) (fun k v => (∀ l, l < 5 → LvC v (a + 3 + 3 * l) (CsOf (es.take k) l) [0]) ∧ ∀ q, (q < a + 3 ∨ a + 17 < q) → v q = r.2 q) _ es.length ?_ ?_ es.length 0 n v (by omega) (by omega) ⟨fun l hl5 => ?_, hq⟩
      · rintro t k v hk ⟨h1, hq⟩
        left
        obtain ⟨g1, g2⟩ := G v hq
        obtain ⟨o1, f, o2, o3⟩ := g2
        have hm : es.getD k 0 ∈ es := getD_mem hk
        have hb := hbd _ hm
        have h24 : es.getD k 0 % 32 < 24 := by
          obtain ⟨i, i1, i2, i3⟩ := hes.mem.mp hm
          rw [i3]
          unfold ent
          omega
        have hH := hgt_le (es.getD k 0 % 32)
        show ∃ s', m_X0_plant_p30 n (t + 1) v a (nI es.length) (nI k) = _ ∧ _
        rw [m_X0_plant_p30, if_neg (nI_ge hk (by omega)), gfR_at o1 rfl, Option.bind_some, agI_at o2 (by omega) (by decide), o3 k hk, Option.bind_some, show (32 : Int32) = nI 32 from rfl, jrm_nI (by omega) (by decide) (by decide), m_hgt6 (by omega) h24, Option.bind_some]
        refine lpk (σ := Wd) (τ := Wd) (fun t' j v => m_X0_plant_p52 n (fun w b0 b2 b3 => m_X0_plant_p30 n t w b0 b2 b3) t' v a (nI es.length) (nI k) (nI (hgt (es.getD k 0 % 32))) (nI j)) (fun v => m_X0_plant_p30 n t v a (nI es.length) (nI (k + 1))) (fun j v => (∀ l, l < 5 → LvC v (a + 3 + 3 * l) (if l < j then CsOf (es.take (k + 1)) l else CsOf (es.take k) l) [0]) ∧ ∀ q, (q < a + 3 ∨ a + 17 < q) → v q = r.2 q) _ (hgt (es.getD k 0 % 32) + 1) ?_ ?_ (hgt (es.getD k 0 % 32) + 1) 0 n v (by omega) (by omega) ⟨fun l hl5 => h1 l hl5, hq⟩
        · rintro t' j v hj ⟨h1, hq⟩
          left
          obtain ⟨g1, g2⟩ := G v hq
          obtain ⟨o1, f, o2, o3⟩ := g2
          have k1 := h1 j (by omega)
          rw [if_neg (Nat.lt_irrefl _)] at k1
          have hcl : (CsOf (es.take k) j).length < 24 := by
            have := CsOf_len (es := es.take k) (l := j)
            rw [List.length_take] at this
            omega
          obtain ⟨v2, e2, k2, q2⟩ := m_take (n := n) k1 (x := es.getD k 0 / 32) hcl
          refine ⟨v2, ?_, fun l hl5 => ?_, fun q hq1 => (q2 q (by omega)).trans (hq q hq1)⟩
          · show m_X0_plant_p52 n _ (t' + 1) v a (nI es.length) (nI k) (nI (hgt (es.getD k 0 % 32))) (nI j) = _
            rw [m_X0_plant_p52, if_neg (nI_nlt (by omega) (by omega)), g1.lv (by omega), gfR_at o1 rfl, Option.bind_some, agI_at o2 (by omega) (by decide), o3 k hk, Option.bind_some, k1.c, Option.bind_some, show (32 : Int32) = nI 32 from rfl, pk_div (by omega) (by decide) (by decide), e2, Option.bind_some, nI_1]
          · by_cases c : l = j
            · subst c
              rw [if_pos (Nat.lt_succ_self _), take_s hk, CsOf_app, if_pos (by omega)]
              exact k2
            · have k3 := (h1 l hl5).frame (w' := v2) fun q a1 a2 => q2 q (by omega)
              by_cases d : l < j
              · rw [if_pos d] at k3
                rw [if_pos (by omega)]
                exact k3
              · rw [if_neg d] at k3
                rw [if_neg (by omega)]
                exact k3
        · rintro t' v ⟨h1, hq⟩
          refine ⟨v, ?_, fun l hl5 => ?_, hq⟩
          · show m_X0_plant_p52 n _ (t' + 1) v a (nI es.length) (nI k) (nI (hgt (es.getD k 0 % 32))) (nI (hgt (es.getD k 0 % 32) + 1)) = _
            rw [m_X0_plant_p52, if_pos (nI_lt (Nat.lt_succ_self _) (by omega)), nI_1]
          · have k3 := h1 l hl5
            by_cases d : l < hgt (es.getD k 0 % 32) + 1
            · rw [if_pos d] at k3
              exact k3
            · rw [if_neg d] at k3
              rw [take_s hk, CsOf_app, if_neg (by omega), List.append_nil]
              exact k3
      · rintro t v ⟨h1, hq⟩
        show ∃ r', m_X0_plant_p30 n (t + 1) v a (nI es.length) (nI es.length) = some r' ∧ _
        rw [m_X0_plant_p30, if_pos (Int32.le_refl _), m_X0_plant_p90]
        rw [List.take_length] at h1
        refine lp (σ := Wd) (fun t k v => m_X0_plant_p92 n t v a (nI k)) (fun k v => (∀ l, l < 5 → ∃ qs, LvC v (a + 3 + 3 * l) (CsOf es l) qs ∧ (l < k → NodesOf (CsOf es l) qs) ∧ (k ≤ l → qs = [0])) ∧ ∀ q, (q < a + 3 ∨ a + 17 < q) → v q = r.2 q) _ 5 ?_ ?_ 5 0 n v rfl (by omega) ⟨fun l hl5 => ⟨[0], h1 l hl5, fun x => absurd x (Nat.not_lt_zero _), fun _ => rfl⟩, hq⟩
        · rintro t k v hk ⟨h1, hq⟩
          left
          obtain ⟨g1, g2⟩ := G v hq
          obtain ⟨qs, k1, -, k3⟩ := h1 k hk
          have := k3 (Nat.le_refl _)
          subst this
          obtain ⟨v2, e2, ⟨qs2, k4, k5⟩, q2⟩ := m_find (n := n) (by omega) k1 (CsOf_12 hbd) (CsOf_srt hes.1)
          refine ⟨v2, ?_, fun l hl5 => ?_, fun q hq1 => (q2 q (by omega)).trans (hq q hq1)⟩
          · show m_X0_plant_p92 n (t + 1) v a (nI k) = _
            rw [m_X0_plant_p92, if_neg (show ¬ (5 : Int32) ≤ nI k from nI_ge hk (by decide)), g1.lv hk, k1.c, Option.bind_some, e2, Option.bind_some, nI_1]
          · by_cases c : l = k
            · subst c
              exact ⟨qs2, k4, fun _ => k5, fun x => absurd x (by omega)⟩
            · obtain ⟨qs', b1, b2, b3⟩ := h1 l hl5
              exact ⟨qs', b1.frame fun q a1 a2 => q2 q (by omega), fun x => b2 (by omega), fun x => b3 (by omega)⟩
        · rintro t v ⟨h1, hq⟩
          refine ⟨v, ?_, fun l hl5 => ?_, hq⟩
          · show m_X0_plant_p92 n (t + 1) v a (nI 5) = _
            rw [m_X0_plant_p92, if_pos (by decide)]
          · obtain ⟨qs', b1, b2, -⟩ := h1 l hl5
            exact ⟨qs', b1, b2 hl5⟩
      · obtain ⟨cs, qs, k1, k2⟩ := h1 l hl5
        obtain ⟨rfl, rfl⟩ := k2 hl5
        exact k1
    · obtain ⟨cs, qs, k1⟩ := hl l hl5
      exact ⟨cs, qs, k1.frame fun q a1 a2 => q1 q (by omega), fun x => absurd x (Nat.not_lt_zero _)⟩
  obtain ⟨w', e2, h2, q2⟩ := main
  obtain ⟨g1, g2⟩ := G w' q2
  refine ⟨w', ?_, ⟨g1, es, g2, hes, h2⟩, fun q hq => (q2 q (by omega)).trans (q1 q (by omega))⟩
  rw [m_X0_plant, chk_at hg.1, Option.bind_some, e1, Option.bind_some, er]
  exact e2
