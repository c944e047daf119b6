/-! THE LAW'S LOOP: its changes -/
theorem in_ab {a i b : Nat} (h1 : a ≤ i) (h2 : i ≤ b) (hb : b < 2 ^ 31) : m_X6_inside (nI i) (nI a) (nI b) = 1 := by
  unfold m_X6_inside
  rw [if_neg (nI_nlt h1 (by omega)), if_neg (nI_nlt h2 hb)]
theorem md {y a m : Nat} (hy : y < 2 ^ 31) (h0 : 0 < a) (ha : a < 2 ^ 31) (h1 : 0 < m) (hm : m < 2 ^ 31) : jrm (nI y / nI a) (nI m) = nI (y / a % m) := by
  rw [pk_div hy h0 ha, jrm_nI (Nat.lt_of_le_of_lt (Nat.div_le_self _ _) hy) h1 hm]
theorem sp19 : ∀ k, k < 19 → m_X6_inside (nI k - 9) (-9) 9 = 1 ∧ sp (nI k - 9) := by
  have h : ∀ k, k < 19 → m_X6_inside (nI k - 9) (-9) 9 = 1 ∧ (-9 ≤ (nI k - 9).toInt ∧ (nI k - 9).toInt ≤ 9) := by decide +kernel
  exact h
theorem ab19 : ∀ a, a < 19 → ∀ b, b < 19 → (0 : Int32) ≤ 10 * abI (nI a - 9) + abI (nI b - 9) := by decide +kernel
theorem sp_k {v : Int32} (h : sp v) : ∃ k, k < 19 ∧ v = nI k - 9 := by
  obtain ⟨h1, h2⟩ := h
  refine ⟨(v.toInt + 9).toNat, by omega, ?_⟩
  apply Int32.toInt_inj.mp
  have e9 : (9 : Int32) = nI 9 := rfl
  have hk : (nI (v.toInt + 9).toNat).toInt = v.toInt + 9 := by
    rw [nI_toInt (by omega)]
    omega
  have h9 : (9 : Int32).toInt = 9 := by decide
  rw [Int32.toInt_sub, hk, h9, show v.toInt + 9 - 9 = v.toInt by omega]
  rw [Int.bmod_eq_of_le (by omega) (by omega)]
theorem pas_le {S : Nat → Int32} (hw : WF S) : ∀ m, pasT S m ≤ 240 * m
  | 0 => Nat.le_refl _
  | m + 1 => by
    have h := pas_le hw m
    have h1 := touK_le (hw.oneN m) (hw.oneN (m + 1)) 5
    rw [pasT]
    omega
/-- a change's end: it went through and can be undone, or it was refused -/
def Chg (w' : Wd) (h : Nat) (S : Nat → Int32) (L : Nat) (B : Nat → Int32) (v : Int32) : Prop :=
  (0 ≤ v ∧ ∃ S' P' c', Kc w' h S' P' c' L B ∧ c' ≠ 0 ∧ P' (c' - 1) = S) ∨ (v = -5000002 ∧ ∃ P' c', Kc w' h S P' c' L B)
section KO
variable {n h c L : Nat} {w : Wd} {S : Nat → Int32} {P : Nat → Nat → Int32} {B : Nat → Int32}
theorem chg_ok {S' : Nat → Int32} {w' : Wd} {v : Int32} (hv : 0 ≤ v) (H : Kc w' h S' (pshP c S P) (min (c + 1) 4) L B) : Chg w' h S L B v :=
  Or.inl ⟨hv, S', _, _, H, by omega, psh_top⟩
theorem o_add (hn : 600 ≤ n) (H : Kc w h S P c L B) {id p q : Nat} (hi : id < 24) (hp : p < 64) (hq : q < 64) : ∃ z, m_L_add n w h (nI id) (nI p) (nI q) = some z ∧ Chg z.2 h S L B z.1 := by
  have g := H.2.1
  have hw := H.1
  rcases (hw.1 id hi).1 with hz | hz
  · obtain ⟨w', e, k⟩ := x_add hn H hi hp hq hz
    have b := touK_le hw (hw.put (i := id) hi hp hq) 5
    refine ⟨(nI (touK S (putS S id (nI p) (nI q)) 5), w'), ?_, chg_ok (nI_le (a := 0) (Nat.zero_le _) (by omega)) k⟩
    rw [m_L_add, g.ck, Option.bind_some, q_X6_add, g.ck, Option.bind_some, m_refP g, Option.bind_some, rP hi hp hq, if_pos hz, Option.bind_some, if_pos rfl, e, Option.bind_some]
  · refine ⟨(-5000002, w), ?_, Or.inr ⟨rfl, P, c, H⟩⟩
    rw [m_L_add, g.ck, Option.bind_some, q_X6_add, g.ck, Option.bind_some, m_refP g, Option.bind_some, rP hi hp hq, if_neg (by rw [hz]; decide), Option.bind_some, if_neg (by decide), if_neg (by decide), if_neg (by decide), if_pos rfl]
theorem o_remove (hn : 600 ≤ n) (H : Kc w h S P c L B) {id : Nat} (hi : id < 24) : ∃ z, m_L_remove n w h (nI id) = some z ∧ Chg z.2 h S L B z.1 := by
  have g := H.2.1
  have hw := H.1
  by_cases hz : S (5 * id) = 0
  · refine ⟨(-5000002, w), ?_, Or.inr ⟨rfl, P, c, H⟩⟩
    rw [m_L_remove, g.ck, Option.bind_some, q_X6_remove, g.ck, Option.bind_some, m_refD g, Option.bind_some, rD hi, if_pos hz, Option.bind_some, if_neg (by decide), if_neg (by decide), if_pos rfl]
  · obtain ⟨w', e, k⟩ := x_remove hn H hi hz
    have b := touK_le hw (hw.clr hi) 5
    refine ⟨(nI (touK S (clrS S id) 5), w'), ?_, chg_ok (nI_le (a := 0) (Nat.zero_le _) (by omega)) k⟩
    rw [m_L_remove, g.ck, Option.bind_some, q_X6_remove, g.ck, Option.bind_some, m_refD g, Option.bind_some, rD hi, if_neg hz, Option.bind_some, if_pos rfl, e, Option.bind_some]
theorem o_speed (hn : 600 ≤ n) (H : Kc w h S P c L B) {id a b : Nat} (hi : id < 24) (ha : a < 19) (hb : b < 19) : ∃ z, m_L_setVelocity n w h (nI id) (nI a - 9) (nI b - 9) = some z ∧ Chg z.2 h S L B z.1 := by
  have g := H.2.1
  have hw := H.1
  obtain ⟨u1, u2⟩ := sp19 a ha
  obtain ⟨v1, v2⟩ := sp19 b hb
  by_cases hz : S (5 * id) = 0
  · refine ⟨(-5000002, w), ?_, Or.inr ⟨rfl, P, c, H⟩⟩
    rw [m_L_setVelocity, g.ck, Option.bind_some, q_X6_setVelocity, g.ck, Option.bind_some, m_refS g, Option.bind_some, rS hi u1 v1, if_pos hz, Option.bind_some, if_neg (by decide), if_neg (by decide), if_neg (by decide), if_pos rfl]
  · obtain ⟨w', e, k⟩ := x_speed hn H hi u1 v1 u2 v2 hz
    obtain ⟨a', ha', ea⟩ := sp_k (hw.1 id hi).2.2.2.1
    obtain ⟨b', hb', eb⟩ := sp_k (hw.1 id hi).2.2.2.2.1
    refine ⟨(10 * abI (S (5 * id + 3)) + abI (S (5 * id + 4)), w'), ?_, chg_ok (by rw [ea, eb]; exact ab19 a' ha' b' hb') k⟩
    rw [m_L_setVelocity, g.ck, Option.bind_some, q_X6_setVelocity, g.ck, Option.bind_some, m_refS g, Option.bind_some, rS hi u1 v1, if_neg hz, Option.bind_some, if_pos rfl, e, Option.bind_some]
theorem o_tick (hn : 600 ≤ n) (H : Kc w h S P c L B) {m : Nat} (h1 : 1 ≤ m) (hm : m ≤ 50) : ∃ z, m_L_tick n w h (nI m) = some z ∧ Chg z.2 h S L B z.1 := by
  have g := H.2.1
  have i1 : m_X6_inside (nI m) 1 50 = 1 := in_ab (a := 1) (b := 50) h1 hm (by decide)
  obtain ⟨w', e, k⟩ := x_tick hn H hm i1
  have b := pas_le H.1 m
  refine ⟨(nI (pasT S m), w'), ?_, chg_ok (nI_le (a := 0) (Nat.zero_le _) (by omega)) k⟩
  rw [m_L_tick, g.ck, Option.bind_some, q_X6_tick, m_X6_refusalOfTicks, if_neg (by rw [i1]; decide), Option.bind_some, if_pos rfl, e, Option.bind_some]
theorem o_scatter (hn : 600 ≤ n) (H : Kc w h S P c L B) {f m ar sd : Nat} (hf : f < 24) (m1 : 1 ≤ m) (hm : f + m ≤ 24) (r1 : 1 ≤ ar) (r2 : ar ≤ 64) (hs : sd ≤ 999999) : ∃ z, m_L_scatter n w h (nI f) (nI m) (nI ar) (nI sd) = some z ∧ Chg z.2 h S L B z.1 := by
  have g := H.2.1
  have hk : m_X6_refusalOfScatter (nI f) (nI m) (nI ar) (nI sd) = 0 := by
    have es : (24 : Int32) - nI f = nI (24 - f) := pk_sub (a := 24) (by omega)
    have i2 : m_X6_inside (nI m) 1 (nI (24 - f)) = 1 := in_ab (a := 1) m1 (by omega) (by omega)
    have i3 : m_X6_inside (nI ar) 1 64 = 1 := in_ab (a := 1) (b := 64) r1 r2 (by decide)
    have i4 : m_X6_inside (nI sd) 0 999999 = 1 := in_ab (a := 0) (b := 999999) (Nat.zero_le _) hs (by decide)
    rw [m_X6_refusalOfScatter, if_neg (by rw [isId_all f hf]; decide), es, if_neg (by rw [i2]; decide), if_neg (by rw [i3]; decide), if_neg (by rw [i4]; decide)]
  obtain ⟨w', e, k⟩ := x_scatter hn H hf hm r1 r2 (by omega) hk
  have b : cB (herB (scaS S sd ar f m)) 24 ≤ 24 := cB_le _ 24
  refine ⟨(nI (cB (herB (scaS S sd ar f m)) 24), w'), ?_, chg_ok (nI_le (a := 0) (Nat.zero_le _) (by omega)) k⟩
  rw [m_L_scatter, g.ck, Option.bind_some, q_X6_scatter, hk, Option.bind_some, if_pos rfl, e, Option.bind_some]
theorem o_open (hn : 600 ≤ n) (H : Kc w h S P c L B) {cu p q : Nat} (hc : cu < 4) (hp : p < 64) (hq : q < 64) : ∃ z, m_L_open n w h (nI cu) (nI p) (nI q) = some z ∧ Chg z.2 h S L B z.1 := by
  have g := H.2.1
  obtain ⟨w', e, k⟩ := x_open hn H hc hp hq
  have b : cB (herB S) 24 ≤ 24 := cB_le _ 24
  have h1 : m_X6_refusalOfOpen (nI cu) (nI p) (nI q) = 0 := by
    rw [m_X6_refusalOfOpen, if_neg (by rw [in4_all cu hc]; decide), if_neg (by rw [isPos_all p hp q hq]; decide)]
  refine ⟨(nI (cB (herB S) 24), w'), ?_, chg_ok (nI_le (a := 0) (Nat.zero_le _) (by omega)) k⟩
  rw [m_L_open, g.ck, Option.bind_some, q_X6_open, h1, Option.bind_some, if_pos rfl, e, Option.bind_some]
theorem o_undo (hn : 600 ≤ n) (H : Kc w h S P c L B) (hc : c ≠ 0) : ∃ w', m_L_undo n w h = some (nI (c - 1), w') ∧ Kc w' h (P (c - 1)) P (c - 1) L B := by
  have hc4 := H.le4
  have g := H.2.1
  have hp : ¬ nI c ≤ 0 := nI_nle (by omega) (by omega)
  obtain ⟨w', e, k⟩ := x_undo hn H hc
  exact ⟨w', by rw [m_L_undo, g.ck, Option.bind_some, q_X6_undo, g.n1, Option.bind_some, g.cnt, Option.bind_some, if_neg hp, Option.bind_some, if_pos rfl, e, Option.bind_some], k⟩
theorem o_undo0 (H : Kc w h S P 0 L B) : m_L_undo n w h = some (-5000002, w) := by
  have g := H.2.1
  rw [m_L_undo, g.ck, Option.bind_some, q_X6_undo, g.n1, Option.bind_some, g.cnt, Option.bind_some, if_pos (show nI 0 ≤ 0 from Int32.le_refl _), Option.bind_some, if_neg (by decide), if_pos rfl]
end KO
