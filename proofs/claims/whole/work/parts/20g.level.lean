/-! THE CLASS'S LEVEL: its codes and its squares, and how it finds them -/
def LvC (w : Wd) (a : Nat) (cs qs : List Nat) : Prop :=
  w a = some (.inr (1, [.ref (a + 1), .int (nI cs.length), .ref (a + 2), .int (nI qs.length)])) ∧
  (∃ f, w (a + 1) = some (.inl (0, 24, .inl f)) ∧ ∀ i, i < cs.length → f i = nI (cs.getD i 0)) ∧
  (∃ f, w (a + 2) = some (.inl (0, 24, .inl f)) ∧ ∀ i, i < qs.length → f i = nI (qs.getD i 0)) ∧
  cs.length ≤ 24 ∧ qs.length ≤ 24 ∧ 0 < qs.length ∧ qs.getD 0 0 = 0
abbrev Fr2 (w w' : Wd) (a : Nat) : Prop := ∀ q, (q < a ∨ a + 2 < q) → w' q = w q
theorem LvC.frame {w w' : Wd} {a : Nat} {cs qs : List Nat} (h : LvC w a cs qs) (hq : ∀ q, a ≤ q → q ≤ a + 2 → w' q = w q) : LvC w' a cs qs := by
  obtain ⟨h0, ⟨f, h1, h2⟩, ⟨g, h3, h4⟩, h5⟩ := h
  exact ⟨by rw [hq _ (by omega) (by omega)]; exact h0, ⟨f, by rw [hq _ (by omega) (by omega)]; exact h1, h2⟩, ⟨g, by rw [hq _ (by omega) (by omega)]; exact h3, h4⟩, h5⟩
theorem getD_app {l : List Nat} {x i : Nat} (h : i < l.length) : (l ++ [x]).getD i 0 = l.getD i 0 := by
  rw [List.getD_eq_getElem?_getD, List.getD_eq_getElem?_getD, List.getElem?_append_left h]
theorem getD_last {l : List Nat} {x : Nat} : (l ++ [x]).getD l.length 0 = x := by
  rw [List.getD_eq_getElem?_getD, List.getElem?_append_right (Nat.le_refl _), Nat.sub_self]
  rfl
section LV
variable {w : Wd} {a n : Nat} {cs qs : List Nat}
theorem LvC.cd (h : LvC w a cs qs) {i : Nat} (hi : i < cs.length) : agI 0 w (a + 1) (nI i) = some (nI (cs.getD i 0)) := by
  obtain ⟨h0, ⟨f, h1, h2⟩, ⟨g, h3, h4⟩, h5, -⟩ := h
  rw [agI_at h1 (by omega) (by decide), h2 i hi]
theorem LvC.sqr (h : LvC w a cs qs) {i : Nat} (hi : i < qs.length) : agI 0 w (a + 2) (nI i) = some (nI (qs.getD i 0)) := by
  obtain ⟨h0, ⟨f, h1, h2⟩, ⟨g, h3, h4⟩, h5, h6, -⟩ := h
  rw [agI_at h3 (by omega) (by decide), h4 i hi]
theorem LvC.g0 (h : LvC w a cs qs) : gfR 1 0 w a = some (a + 1) := gfR_at h.1 rfl
theorem LvC.g2 (h : LvC w a cs qs) : gfR 1 2 w a = some (a + 2) := gfR_at h.1 rfl
theorem LvC.i1 (h : LvC w a cs qs) : gfI 1 1 w a = some (nI cs.length) := gfI_at h.1 rfl
theorem LvC.i3 (h : LvC w a cs qs) : gfI 1 3 w a = some (nI qs.length) := gfI_at h.1 rfl
theorem LvC.c (h : LvC w a cs qs) : chk 1 w a = some () := chk_at h.1
theorem m_lclear (h : LvC w a cs qs) : ∃ w', m_X1_clear n w a = some w' ∧ LvC w' a [] [0] ∧ Fr2 w w' a := by
  obtain ⟨h0, ⟨f, h1, h2⟩, ⟨g, h3, h4⟩, h5, h6, h7, h8⟩ := h
  generalize hw : wup (wup w a (.inr (1, [.ref (a + 1), .int 0, .ref (a + 2), .int (nI qs.length)]))) a (.inr (1, [.ref (a + 1), .int 0, .ref (a + 2), .int 1])) = w'
  have o : ∀ q, q ≠ a → w' q = w q := fun q hq => by rw [← hw, wup_ne hq, wup_ne hq]
  refine ⟨w', ?_, ⟨by rw [← hw, wup_self]; rfl, ⟨f, by rw [o _ (by omega)]; exact h1, fun i hi => absurd hi (Nat.not_lt_zero _)⟩, ⟨g, by rw [o _ (by omega)]; exact h3, fun i hi => ?_⟩, by decide, by decide, by decide, rfl⟩, fun q hq => o q (by omega)⟩
  · rw [m_X1_clear, pfV_at h0 (Nat.le_of_ble_eq_true rfl), Option.bind_some, pfV_at wup_self (Nat.le_of_ble_eq_true rfl), Option.bind_some]
    exact congrArg some hw
  · have : i = 0 := by
      rw [List.length_cons, List.length_nil] at hi
      omega
    subst this
    rw [h4 0 h7, h8]
    rfl
theorem m_take (h : LvC w a cs qs) {x : Nat} (hl : cs.length < 24) : ∃ w', m_X1_take n w a (nI x) = some w' ∧ LvC w' a (cs ++ [x]) qs ∧ Fr2 w w' a := by
  obtain ⟨h0, ⟨f, h1, h2⟩, ⟨g, h3, h4⟩, h5, h6, h7, h8⟩ := h
  generalize hw : wup (wup w (a + 1) (.inl (0, 24, .inl (upd f cs.length (nI x))))) a (.inr (1, [.ref (a + 1), .int (nI (cs.length + 1)), .ref (a + 2), .int (nI qs.length)])) = w'
  have o : ∀ q, q ≠ a → q ≠ a + 1 → w' q = w q := fun q hq hq1 => by rw [← hw, wup_ne hq, wup_ne hq1]
  have h0' : wup w (a + 1) (.inl (0, 24, .inl (upd f cs.length (nI x)))) a = some (.inr (1, [.ref (a + 1), .int (nI cs.length), .ref (a + 2), .int (nI qs.length)])) := by rw [wup_ne (by omega)]; exact h0
  refine ⟨w', ?_, ⟨by rw [← hw, wup_self, List.length_append]; rfl, ⟨upd f cs.length (nI x), by rw [← hw, wup_ne (by omega), wup_self], fun i hi => ?_⟩, ⟨g, by rw [o _ (by omega) (by omega)]; exact h3, h4⟩, ?_, h6, h7, h8⟩, fun q hq => o q (by omega) (by omega)⟩
  · rw [m_X1_take, gfI_at h0 rfl, Option.bind_some, if_neg (show ¬ (24 : Int32) ≤ nI cs.length from nI_ge hl (by decide)), gfR_at h0 rfl, Option.bind_some, Option.bind_some, asI_at h1 hl (by decide), Option.bind_some, gfI_at h0' rfl, Option.bind_some, pfV_at h0' (Nat.le_of_ble_eq_true rfl), Option.bind_some, nI_1]
    exact congrArg some hw
  · rw [List.length_append, List.length_cons, List.length_nil] at hi
    by_cases e : i = cs.length
    · subst e
      rw [pk_us, getD_last]
    · rw [pk_un e, h2 i (by omega), getD_app (by omega)]
  · rw [List.length_append, List.length_cons, List.length_nil]
    omega
theorem m_keep (h : LvC w a cs qs) {x : Nat} (hl : qs.length < 24) : ∃ w', m_X1_keep n w a (nI x) = some w' ∧ LvC w' a cs (qs ++ [x]) ∧ Fr2 w w' a := by
  obtain ⟨h0, ⟨f, h1, h2⟩, ⟨g, h3, h4⟩, h5, h6, h7, h8⟩ := h
  generalize hw : wup (wup w (a + 2) (.inl (0, 24, .inl (upd g qs.length (nI x))))) a (.inr (1, [.ref (a + 1), .int (nI cs.length), .ref (a + 2), .int (nI (qs.length + 1))])) = w'
  have o : ∀ q, q ≠ a → q ≠ a + 2 → w' q = w q := fun q hq hq1 => by rw [← hw, wup_ne hq, wup_ne hq1]
  have h0' : wup w (a + 2) (.inl (0, 24, .inl (upd g qs.length (nI x)))) a = some (.inr (1, [.ref (a + 1), .int (nI cs.length), .ref (a + 2), .int (nI qs.length)])) := by rw [wup_ne (by omega)]; exact h0
  refine ⟨w', ?_, ⟨by rw [← hw, wup_self, List.length_append]; rfl, ⟨f, by rw [o _ (by omega) (by omega)]; exact h1, h2⟩, ⟨upd g qs.length (nI x), by rw [← hw, wup_ne (by omega), wup_self], fun i hi => ?_⟩, h5, ?_, ?_, ?_⟩, fun q hq => o q (by omega) (by omega)⟩
  · rw [m_X1_keep, gfI_at h0 rfl, Option.bind_some, if_neg (show ¬ (24 : Int32) ≤ nI qs.length from nI_ge hl (by decide)), gfR_at h0 rfl, Option.bind_some, Option.bind_some, asI_at h3 hl (by decide), Option.bind_some, gfI_at h0' rfl, Option.bind_some, pfV_at h0' (Nat.le_of_ble_eq_true rfl), Option.bind_some, nI_1]
    exact congrArg some hw
  · rw [List.length_append, List.length_cons, List.length_nil] at hi
    by_cases e : i = qs.length
    · subst e
      rw [pk_us, getD_last]
    · rw [pk_un e, h4 i (by omega), getD_app (by omega)]
  · rw [List.length_append, List.length_cons, List.length_nil]
    omega
  · rw [List.length_append]
    omega
  · rw [getD_app h7]
    exact h8
def C12 (cs : List Nat) : Prop := ∀ c ∈ cs, c < 4096
def beg (cs : List Nat) (k e : Nat) : Prop := k = 0 ∨ cs.getD (k - 1) 0 / 4 ^ e ≠ cs.getD k 0 / 4 ^ e
def brs (cs : List Nat) (k e : Nat) : Prop := ∃ j, k < j ∧ j < cs.length ∧ spl e (cs.getD k 0) (cs.getD j 0)
theorem C12.at (hc : C12 cs) {i : Nat} (hi : i < cs.length) : cs.getD i 0 < 2 ^ 31 := lt31 (hc _ (getD_mem hi))
theorem m_begins (h : LvC w a cs qs) (hc : C12 cs) {k e : Nat} (hk : k < cs.length) (he : e ≤ 5) : ∃ v, m_X1_beginsSquare n w a (nI k) (nI e) = some v ∧ (v = 1 ∧ beg cs k e ∨ v = 0 ∧ ¬ beg cs k e) := by
  have h24 := h.2.2.2.1
  unfold m_X1_beginsSquare
  by_cases hz : k = 0
  · subst hz
    exact ⟨1, by rw [if_pos (show nI 0 = 0 from rfl)], Or.inl ⟨rfl, Or.inl rfl⟩⟩
  · rw [if_neg (nI_ne0 (by omega) (by omega)), h.g0, Option.bind_some, show nI k - 1 = nI (k - 1) from pk_sub (a := k) (b := 1) (by omega), h.cd (by omega), Option.bind_some, Option.bind_some, h.cd hk, Option.bind_some, shr2 (hc.at (by omega)) (by omega), shr2 (hc.at hk) (by omega)]
    by_cases g : cs.getD (k - 1) 0 / 4 ^ e = cs.getD k 0 / 4 ^ e
    · exact ⟨0, by rw [if_pos (by rw [g])], Or.inr ⟨rfl, fun q => q.elim hz fun q => q g⟩⟩
    · exact ⟨1, by rw [if_neg fun q => g ((nI_eq (div_lt31 (hc.at (by omega))) (div_lt31 (hc.at hk))).mp q)], Or.inl ⟨rfl, Or.inr g⟩⟩
theorem m_branches (hn : 30 ≤ n) (h : LvC w a cs qs) (hc : C12 cs) (hs : Srt cs) {k e : Nat} (hk : k < cs.length) (h1 : 1 ≤ e) (he : e ≤ 5) : ∃ v, m_X1_branches n w a (nI k) (nI e) = some v ∧ (v = 1 ∧ brs cs k e ∨ v = 0 ∧ ¬ brs cs k e) := by
  have h24 := h.2.2.2.1
  unfold m_X1_branches
  rw [h.g0, Option.bind_some, h.cd hk, Option.bind_some, Option.bind_some, shr2 (hc.at hk) (by omega), h.cd hk, Option.bind_some, shr2m (hc.at hk) h1 (by omega), nI_1]
  refine lp (σ := Unit) (fun t j _ => m_X1_branches_p30 n t w a (nI e) (nI (cs.getD k 0 / 4 ^ e)) (nI (cs.getD k 0 / 4 ^ (e - 1))) (nI j)) (fun j _ => k < j ∧ ∀ i, k < i → i < j → cs.getD i 0 / 4 ^ (e - 1) = cs.getD k 0 / 4 ^ (e - 1)) (fun v => v = 1 ∧ brs cs k e ∨ v = 0 ∧ ¬ brs cs k e) cs.length ?_ ?_ (cs.length - (k + 1)) (k + 1) n () (by omega) (by omega) ⟨Nat.lt_succ_self _, fun i h1 h2 => absurd h1 (by omega)⟩
  · rintro t j ⟨⟩ hj ⟨hkj, hi⟩
    rw [m_X1_branches_p30, h.i1, Option.bind_some, if_neg (nI_ge hj (by omega)), h.g0, Option.bind_some, h.cd hj, Option.bind_some, shr2 (hc.at hj) (by omega)]
    by_cases g : cs.getD j 0 / 4 ^ e = cs.getD k 0 / 4 ^ e
    · rw [if_pos (by rw [g]), Option.bind_some, h.cd hj, Option.bind_some, shr2m (hc.at hj) h1 (by omega)]
      by_cases g2 : cs.getD j 0 / 4 ^ (e - 1) = cs.getD k 0 / 4 ^ (e - 1)
      · left
        refine ⟨(), by rw [if_pos (by rw [g2]), nI_1], by omega, fun i a1 a2 => ?_⟩
        by_cases e : i = j
        · rw [e]
          exact g2
        · exact hi i a1 (by omega)
      · right
        exact ⟨1, by rw [if_neg fun q => g2 ((nI_eq (div_lt31 (hc.at hj)) (div_lt31 (hc.at hk))).mp q)], Or.inl ⟨rfl, j, hkj, hj, g.symm, fun q => g2 q.symm⟩⟩
    · right
      refine ⟨0, by rw [if_neg fun q => g ((nI_eq (div_lt31 (hc.at hj)) (div_lt31 (hc.at hk))).mp q)], Or.inr ⟨rfl, ?_⟩⟩
      rintro ⟨i, a1, a2, a3, a4⟩
      rcases Nat.lt_or_ge i j with q | q
      · exact a4 (hi i a1 q).symm
      · have b1 : cs.getD k 0 / 4 ^ e ≤ cs.getD j 0 / 4 ^ e := Nat.div_le_div_right (srt_le hs (by omega) hj)
        have b2 : cs.getD j 0 / 4 ^ e ≤ cs.getD i 0 / 4 ^ e := Nat.div_le_div_right (srt_le hs q a2)
        omega
  · rintro t ⟨⟩ ⟨hkj, hi⟩
    refine ⟨0, ?_, Or.inr ⟨rfl, ?_⟩⟩
    · rw [m_X1_branches_p30, h.i1, Option.bind_some, if_pos (Int32.le_refl _)]
    · rintro ⟨i, a1, a2, a3, a4⟩
      exact a4 (hi i a1 a2).symm
end LV
