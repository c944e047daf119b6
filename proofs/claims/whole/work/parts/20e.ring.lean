/-! A ROW OF 141 NUMBERS AS THE STATE OF BOTH; the class's ring of states -/
def sp (v : Int32) : Prop := -9 ≤ v.toInt ∧ v.toInt ≤ 9
def lpOf (S : Nat → Int32) (c : Nat) : Int32 := if S (122 + 5 * c) = 0 then -1 else S (123 + 5 * c) * 32 + S (124 + 5 * c)
def N64 (v : Int32) : Prop := ∃ x, x < 64 ∧ v = nI x
def WFp (S : Nat → Int32) (i : Nat) : Prop := (S (5 * i) = 0 ∨ S (5 * i) = 1) ∧ N64 (S (5 * i + 1)) ∧ N64 (S (5 * i + 2)) ∧ sp (S (5 * i + 3)) ∧ sp (S (5 * i + 4)) ∧ (S (5 * i) = 0 → S (5 * i + 1) = 0 ∧ S (5 * i + 2) = 0 ∧ S (5 * i + 3) = 0 ∧ S (5 * i + 4) = 0)
def WFc (S : Nat → Int32) (c : Nat) : Prop := N64 (S (120 + 5 * c)) ∧ N64 (S (121 + 5 * c)) ∧ (S (122 + 5 * c) = 0 ∨ S (122 + 5 * c) = 1 ∧ (∃ d, d ≤ 7938 ∧ S (123 + 5 * c) = nI d) ∧ ∃ i, i < 24 ∧ S (124 + 5 * c) = nI i)
def WF (S : Nat → Int32) : Prop := (∀ i, i < 24 → WFp S i) ∧ ∀ c, c < 4 → WFc S c
def StR (S : Nat → Int32) (F : Rw) (t : Int32) : Prop := (∀ j i, j < 5 → i < 24 → F j i = S (5 * i + j)) ∧ (∀ c, c < 4 → F 5 c = S (120 + 5 * c) ∧ F 6 c = S (121 + 5 * c) ∧ F 7 c = lpOf S c) ∧ t = S 140
def StW (w : Wd) (a : Nat) (S : Nat → Int32) : Prop := ∃ F t, StC w a t F ∧ StR S F t
theorem StW.frame {w w' : Wd} {a : Nat} {S : Nat → Int32} (h : StW w a S) (hq : ∀ q, a ≤ q → q ≤ a + 8 → w' q = w q) : StW w' a S := by
  obtain ⟨F, t, h1, h2⟩ := h
  exact ⟨F, t, h1.frame hq, h2⟩
theorem StR.bo {S : Nat → Int32} {F : Rw} {t : Int32} (h : StR S F t) (hw : WF S) : ∀ i, i < 24 → F 0 i = 0 ∨ F 0 i = 1 := fun i hi => by
  rw [h.1 0 i (by decide) hi]
  exact (hw.1 i hi).1
theorem StR.copy {S : Nat → Int32} {F F' : Rw} {t : Int32} (h : StR S F t) (h1 : ∀ j i, j < 5 → i < 24 → F' j i = F j i) (h2 : ∀ j i, 5 ≤ j → j < 8 → i < 4 → F' j i = F j i) : StR S F' t :=
  ⟨fun j i hj hi => (h1 j i hj hi).trans (h.1 j i hj hi), fun c hc => by rw [h2 5 c (by decide) (by decide) hc, h2 6 c (by decide) (by decide) hc, h2 7 c (by decide) (by decide) hc]; exact h.2.1 c hc, h.2.2⟩
def RgC (w : Wd) (h t c : Nat) : Prop := w (h + 10) = some (.inr (4, [.ref (h + 11), .int (nI t), .int (nI c)])) ∧ ∃ f, w (h + 11) = some (.inl (4, 4, .inr (.inr (.inr (.inr f))))) ∧ ∀ k, k < 4 → f k = some (h + 12 + 9 * k)
def Rg (w : Wd) (h t c : Nat) (P : Nat → Nat → Int32) : Prop := t < 4 ∧ c ≤ 4 ∧ RgC w h t c ∧ (∀ k, k < 4 → ∃ F tt, StC w (h + 12 + 9 * k) tt F) ∧ ∀ j, j < c → WF (P j) ∧ StW w (h + 12 + 9 * ((t + 4 - c + j) % 4)) (P j)
theorem Rg.frame {w w' : Wd} {h t c : Nat} {P : Nat → Nat → Int32} (g : Rg w h t c P) (hq : ∀ q, h + 10 ≤ q → q ≤ h + 47 → w' q = w q) : Rg w' h t c P := by
  obtain ⟨h1, h2, ⟨h3, f, h4, h5⟩, h6, h7⟩ := g
  refine ⟨h1, h2, ⟨by rw [hq _ (by omega) (by omega)]; exact h3, f, by rw [hq _ (by omega) (by omega)]; exact h4, h5⟩, fun k hk => ?_, fun j hj => ⟨(h7 j hj).1, (h7 j hj).2.frame fun q a b => hq q (by omega) (by omega)⟩⟩
  obtain ⟨F, tt, g⟩ := h6 k hk
  exact ⟨F, tt, g.frame fun q a b => hq q (by omega) (by omega)⟩
def pshP (c : Nat) (S : Nat → Int32) (P : Nat → Nat → Int32) : Nat → Nat → Int32 := fun j => if j + 1 = min (c + 1) 4 then S else P (if c = 4 then j + 1 else j)
theorem mn4 {c : Nat} (hc : c ≤ 4) : mnI (nI c + 1) 4 = nI (min (c + 1) 4) := by
  rcases (show c = 0 ∨ c = 1 ∨ c = 2 ∨ c = 3 ∨ c = 4 by omega) with rfl | rfl | rfl | rfl | rfl <;> decide +kernel
theorem m_push {n : Nat} (hn : 30 ≤ n) {w : Wd} {h t c : Nat} {S : Nat → Int32} {P : Nat → Nat → Int32} (hs : StW w (h + 1) S) (hw : WF S) (g : Rg w h t c P) :
    ∃ w', m_X5_push n w (h + 10) (h + 1) = some w' ∧ Rg w' h ((t + 1) % 4) (min (c + 1) 4) (pshP c S P) ∧ ∀ q, (q < h + 10 ∨ h + 47 < q) → w' q = w q := by
  obtain ⟨F, tt, hF, hR⟩ := hs
  obtain ⟨h1, h2, ⟨h3, f, h4, h5⟩, h6, h7⟩ := g
  obtain ⟨F0, t0, hT⟩ := h6 t h1
  obtain ⟨w1, e1, ⟨F1, g1, k1, k2⟩, q1⟩ := m_copy hn hT hF (Or.inr (by omega)) (hR.bo hw)
  have a3 : w1 (h + 10) = some (.inr (4, [.ref (h + 11), .int (nI t), .int (nI c)])) := by rw [q1 _ (by omega)]; exact h3
  generalize hw2 : wup (wup w1 (h + 10) (.inr (4, [.ref (h + 11), .int (nI ((t + 1) % 4)), .int (nI c)]))) (h + 10) (.inr (4, [.ref (h + 11), .int (nI ((t + 1) % 4)), .int (nI (min (c + 1) 4))])) = w2
  have o2 : ∀ q, q ≠ h + 10 → w2 q = w1 q := fun q hq => by rw [← hw2, wup_ne hq, wup_ne hq]
  have a2 : w2 (h + 10) = some (.inr (4, [.ref (h + 11), .int (nI ((t + 1) % 4)), .int (nI (min (c + 1) 4))])) := by rw [← hw2, wup_self]
  have hm : min (c + 1) 4 ≤ 4 := Nat.min_le_right _ _
  refine ⟨w2, ?_, ⟨Nat.mod_lt _ (by decide), hm, ⟨a2, f, ?_, h5⟩, fun k hk => ?_, fun j hj => ?_⟩, fun q hq => ?_⟩
  · rw [m_X5_push, gfR_at h3 rfl, Option.bind_some, gfI_at h3 rfl, Option.bind_some, agQ_at h4 h1 (by decide), h5 t h1, Option.bind_some, chk_at hT.1, Option.bind_some, e1, Option.bind_some, gfI_at a3 rfl, Option.bind_some, nI_1, show (4 : Int32) = nI 4 from rfl, jrm_nI (by omega) (by decide) (by decide), pfV_at a3 (Nat.le_of_ble_eq_true rfl), Option.bind_some, gfI_at wup_self rfl, Option.bind_some, show mnI (nI c + 1) (nI 4) = nI (min (c + 1) 4) from mn4 h2, pfV_at wup_self (Nat.le_of_ble_eq_true rfl), Option.bind_some]
    exact congrArg some hw2
  · rw [o2 _ (by omega), q1 _ (by omega)]
    exact h4
  · by_cases e : k = t
    · subst e
      exact ⟨F1, tt, g1.frame fun q a b => o2 q (by omega)⟩
    · obtain ⟨F2, t2, g2⟩ := h6 k hk
      exact ⟨F2, t2, g2.frame fun q a b => by rw [o2 _ (by omega), q1 _ (by omega)]⟩
  · unfold pshP
    by_cases e : j + 1 = min (c + 1) 4
    · rw [if_pos e]
      refine ⟨hw, F1, tt, ?_, hR.copy k1 k2⟩
      rw [show ((t + 1) % 4 + 4 - min (c + 1) 4 + j) % 4 = t by omega]
      exact g1.frame fun q a b => o2 q (by omega)
    · rw [if_neg e]
      have hj' : (if c = 4 then j + 1 else j) < c := by split <;> omega
      obtain ⟨b1, b2⟩ := h7 _ hj'
      refine ⟨b1, ?_⟩
      rw [show ((t + 1) % 4 + 4 - min (c + 1) 4 + j) % 4 = (t + 4 - c + (if c = 4 then j + 1 else j)) % 4 by split <;> omega]
      have hne : (t + 4 - c + (if c = 4 then j + 1 else j)) % 4 ≠ t := by split <;> omega
      have hl4 : (t + 4 - c + (if c = 4 then j + 1 else j)) % 4 < 4 := Nat.mod_lt _ (by decide)
      exact b2.frame fun q a b => by rw [o2 _ (by omega), q1 _ (by omega)]
  · rw [o2 _ (by omega), q1 _ (by omega)]
theorem m_pop {n : Nat} (hn : 30 ≤ n) {w : Wd} {h t c : Nat} {S : Nat → Int32} {P : Nat → Nat → Int32} (hs : StW w (h + 1) S) (g : Rg w h t c P) (hc : 0 < c) :
    ∃ w', m_X5_pop n w (h + 10) (h + 1) = some w' ∧ StW w' (h + 1) (P (c - 1)) ∧ Rg w' h ((t + 3) % 4) (c - 1) P ∧ ∀ q, (q < h + 1 ∨ h + 9 < q) → q ≠ h + 10 → w' q = w q := by
  obtain ⟨F, tt, hF, hR⟩ := hs
  obtain ⟨h1, h2, ⟨h3, f, h4, h5⟩, h6, h7⟩ := g
  obtain ⟨hwP, F0, t0, hT, hRT⟩ := h7 (c - 1) (by omega)
  rw [show (t + 4 - c + (c - 1)) % 4 = (t + 3) % 4 by omega] at hT
  have ht : (t + 3) % 4 < 4 := Nat.mod_lt _ (by decide)
  generalize hw2 : wup (wup w (h + 10) (.inr (4, [.ref (h + 11), .int (nI ((t + 3) % 4)), .int (nI c)]))) (h + 10) (.inr (4, [.ref (h + 11), .int (nI ((t + 3) % 4)), .int (nI (c - 1))])) = w2
  have o2 : ∀ q, q ≠ h + 10 → w2 q = w q := fun q hq => by rw [← hw2, wup_ne hq, wup_ne hq]
  have a2 : w2 (h + 10) = some (.inr (4, [.ref (h + 11), .int (nI ((t + 3) % 4)), .int (nI (c - 1))])) := by rw [← hw2, wup_self]
  obtain ⟨w1, e1, ⟨F1, g1, k1, k2⟩, q1⟩ := m_copy hn (hF.frame (w' := w2) fun q a b => o2 q (by omega)) (hT.frame (w' := w2) fun q a b => o2 q (by omega)) (Or.inl (by omega)) (hRT.bo hwP)
  refine ⟨w1, ?_, ⟨F1, t0, g1, hRT.copy k1 k2⟩, ⟨ht, by omega, ⟨by rw [q1 _ (by omega)]; exact a2, f, by rw [q1 _ (by omega), o2 _ (by omega)]; exact h4, h5⟩, fun k hk => ?_, fun j hj => ?_⟩, fun q hq hq2 => by rw [q1 _ (by omega), o2 _ hq2]⟩
  · rw [m_X5_pop, gfI_at h3 rfl, Option.bind_some, show nI t + 4 - 1 = nI (t + 3) by rw [show (4 : Int32) = nI 4 from rfl, nI_add]; exact nI_pred (t + 3), show (4 : Int32) = nI 4 from rfl, jrm_nI (by omega) (by decide) (by decide), pfV_at h3 (Nat.le_of_ble_eq_true rfl), Option.bind_some, gfI_at wup_self rfl, Option.bind_some, pfV_at wup_self (Nat.le_of_ble_eq_true rfl), Option.bind_some, show nI c - 1 = nI (c - 1) from pk_sub (a := c) (b := 1) hc]
    simp only [List.set_cons_succ, List.set_cons_zero]
    rw [hw2, gfR_at a2 rfl, Option.bind_some, gfI_at a2 rfl, Option.bind_some, agQ_at (show w2 (h + 11) = _ by rw [o2 _ (by omega)]; exact h4) ht (by decide), h5 _ ht, Option.bind_some, chk_at (show w2 (h + 1) = _ by rw [o2 _ (by omega)]; exact hF.1), Option.bind_some, e1, Option.bind_some]
  · obtain ⟨F2, t2, g2⟩ := h6 k hk
    exact ⟨F2, t2, g2.frame fun q a b => by rw [q1 _ (by omega), o2 _ (by omega)]⟩
  · obtain ⟨b1, b2⟩ := h7 j (by omega)
    refine ⟨b1, ?_⟩
    rw [show ((t + 3) % 4 + 4 - (c - 1) + j) % 4 = (t + 4 - c + j) % 4 by omega]
    exact b2.frame fun q a b => by rw [q1 _ (by omega), o2 _ (by omega)]
