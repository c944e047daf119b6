/-! SCRIPTS: words, commands, the class's fault -/
def sLn (c : Nat) : Nat := slen.getD c 0
def sBt (c k : Nat) : Int32 := (sbyt.getD c []).getD k 0
def splB (B : Nat → Int32) (p q c : Nat) : Bool := decide (q - p = sLn c) && (List.range (sLn c)).all fun k => decide (B (p + k) = sBt c k)
def wdF (B : Nat → Int32) (p q : Nat) : Nat := if splB B p q 0 = true then 1 else if splB B p q 1 = true then 2 else if splB B p q 2 = true then 3 else if splB B p q 3 = true then 4 else if splB B p q 4 = true then 5 else 0
def nmF (wd : Nat) : Nat := if wd = 3 ∨ wd = 5 then 1 else 3
def numsF (B : Nat → Int32) (L : Nat) : Nat → Nat → Nat → (Nat → Int32) → Bool × Nat × (Nat → Int32)
  | 0, _, p, V => (true, p, V)
  | r + 1, k, p, V => if (numF B L p).1 = true then numsF B L r (k + 1) (numF B L p).2.1 (upd V k (numF B L p).2.2) else (false, (numF B L p).2.1, V)
def smi (x : Int32) : Bool := decide (x = 59)
def cmdF (B : Nat → Int32) (L p : Nat) : Bool × Nat × Nat × (Nat → Int32) :=
  if wdF B p (ltP B L p) = 0 then (false, p, 0, fun _ => 0)
  else if (numsF B L (nmF (wdF B p (ltP B L p))) 0 (ltP B L p) fun _ => 0).1 = true then
    if nxB smi B L (spP B L (numsF B L (nmF (wdF B p (ltP B L p))) 0 (ltP B L p) fun _ => 0).2.1) = true then (true, spP B L (numsF B L (nmF (wdF B p (ltP B L p))) 0 (ltP B L p) fun _ => 0).2.1 + 1, wdF B p (ltP B L p), (numsF B L (nmF (wdF B p (ltP B L p))) 0 (ltP B L p) fun _ => 0).2.2)
    else (false, spP B L (numsF B L (nmF (wdF B p (ltP B L p))) 0 (ltP B L p) fun _ => 0).2.1, wdF B p (ltP B L p), (numsF B L (nmF (wdF B p (ltP B L p))) 0 (ltP B L p) fun _ => 0).2.2)
  else (false, (numsF B L (nmF (wdF B p (ltP B L p))) 0 (ltP B L p) fun _ => 0).2.1, wdF B p (ltP B L p), (numsF B L (nmF (wdF B p (ltP B L p))) 0 (ltP B L p) fun _ => 0).2.2)
theorem wd_5 (B : Nat → Int32) (p q : Nat) : wdF B p q ≤ 5 := by
  unfold wdF
  repeat' split
  all_goals omega
section WD
variable {n a L p : Nat} {w : Wd} {B : Nat → Int32} {fa wd : Int32} {N : Nat → Int32} {K : Nat → Nat}
theorem str_ix (hK : KI K) {c : Nat} (hc : c < 5) : strIx K (K c) = some c := by
  have ne : ∀ j, j < 5 → j ≠ c → ¬ K c = K j := fun j hj h q => h (hK c j hc hj q).symm
  unfold strIx
  rcases i5 hc with rfl | rfl | rfl | rfl | rfl
  · rw [if_pos rfl]
  · rw [if_neg (ne 0 (by decide) (by decide)), if_pos rfl]
  · rw [if_neg (ne 0 (by decide) (by decide)), if_neg (ne 1 (by decide) (by decide)), if_pos rfl]
  · rw [if_neg (ne 0 (by decide) (by decide)), if_neg (ne 1 (by decide) (by decide)), if_neg (ne 2 (by decide) (by decide)), if_pos rfl]
  · rw [if_neg (ne 0 (by decide) (by decide)), if_neg (ne 1 (by decide) (by decide)), if_neg (ne 2 (by decide) (by decide)), if_neg (ne 3 (by decide) (by decide)), if_pos rfl]
theorem sLn_le {c : Nat} (hc : c < 5) : sLn c ≤ 5 := by
  rcases i5 hc with rfl | rfl | rfl | rfl | rfl <;> decide
theorem str_len (hK : KI K) {c : Nat} (hc : c < 5) : strLen K (K c) = some (nI (sLn c)) := by
  rw [strLen, str_ix hK hc, Option.bind_some]
  rfl
theorem str_at (hK : KI K) {c k : Nat} (hc : c < 5) (hk : k < sLn c) : strAt K (K c) (nI k) = some (sBt c k) := by
  have := sLn_le hc
  rw [strAt, str_ix hK hc, Option.bind_some, nI_clamp (by omega), if_neg (show ¬ (nI k < 0 ∨ slen.getD c 0 ≤ k) from fun q => q.elim (nI_pos (by omega)) fun q => by
    unfold sLn at hk
    omega)]
  rfl
theorem txt_of {c : Nat} (hc : c < 5) : m_X2_textOf K n w (nI c) = some (K c) := by
  rcases i5 hc with rfl | rfl | rfl | rfl | rfl <;> rfl
theorem m_spells {c st : Nat} (hn : 200 ≤ n) (hK : KI K) (h : ScF w a L B p fa wd N) (hL : L ≤ 120) (hp : p ≤ L) (hst : st ≤ p) (hc : c < 5) : m_X2_spells K n w a (K c) (nI st) = some (if splB B st p c = true then 1 else 0) := by
  have h5 := sLn_le hc
  rw [m_X2_spells, h.i4, Option.bind_some, str_len hK hc, Option.bind_some, pk_sub hst]
  unfold splB
  by_cases g : p - st = sLn c
  · rw [if_pos (by rw [g]), decide_eq_true g, Bool.true_and]
    obtain ⟨v, e, hv⟩ := lp (σ := Unit) (R := Int32) (fun t k _ => m_X2_spells_p17 K n t w a (K c) (nI st) (nI k)) (fun k _ => ∀ j, j < k → B (st + j) = sBt c j) (fun v => v = if ((List.range (sLn c)).all fun k => decide (B (st + k) = sBt c k)) = true then 1 else 0) (sLn c) (by
      rintro t k ⟨⟩ hk hI
      rw [m_X2_spells_p17, str_len hK hc, Option.bind_some, if_neg (nI_ge hk (by omega)), h.r0, Option.bind_some, nI_add, h.b hL (show st + k < L by omega), Option.bind_some, str_at hK hc hk, Option.bind_some]
      by_cases z : B (st + k) = sBt c k
      · left
        refine ⟨(), by rw [if_pos z, nI_1], fun j hj => ?_⟩
        by_cases e : j = k
        · rw [e]; exact z
        · exact hI j (by omega)
      · right
        refine ⟨0, by rw [if_neg z], ?_⟩
        rw [if_neg (fun q => z (of_decide_eq_true (List.all_eq_true.mp q k (List.mem_range.mpr hk))))]) (by
      rintro t ⟨⟩ hI
      refine ⟨1, by rw [m_X2_spells_p17, str_len hK hc, Option.bind_some, if_pos (Int32.le_refl _)], ?_⟩
      rw [if_pos (List.all_eq_true.mpr fun k hk => decide_eq_true (hI k (List.mem_range.mp hk)))]) (sLn c) 0 n () (by omega) (by omega) (fun j hj => absurd hj (Nat.not_lt_zero _))
    rw [hv] at e
    exact e
  · rw [if_neg (fun q => g ((nI_eq (by omega) (by omega)).mp q)), decide_eq_false g, Bool.false_and, if_neg (show ¬ false = true by decide)]
theorem m_word (hn : 200 ≤ n) (hK : KI K) (h : ScF w a L B p fa wd N) (hL : L ≤ 120) (hp : p ≤ L) : ∃ z, m_X2_readWord K n w a = some z ∧ Fr2 w z.2 a ∧ (wdF B p (ltP B L p) ≠ 0 → z.1 = 1 ∧ ScF z.2 a L B (ltP B L p) fa (nI (wdF B p (ltP B L p) - 1)) N) ∧ (wdF B p (ltP B L p) = 0 → z.1 = 0 ∧ ScF z.2 a L B (ltP B L p) (nI p) wd N) := by
  obtain ⟨a1, a2, a3, a4⟩ := lt_c (B := B) hp hL
  rw [m_X2_readWord, h.i4, Option.bind_some]
  have fin : ∀ v, ScF v a L B (ltP B L p) fa wd N → Fr2 w v a → ∃ z, m_X2_readWord_p48 K n v a (nI p) = some z ∧ Fr2 w z.2 a ∧ (wdF B p (ltP B L p) ≠ 0 → z.1 = 1 ∧ ScF z.2 a L B (ltP B L p) fa (nI (wdF B p (ltP B L p) - 1)) N) ∧ (wdF B p (ltP B L p) = 0 → z.1 = 0 ∧ ScF z.2 a L B (ltP B L p) (nI p) wd N) := fun v g q => by
    have one : ∀ c t, c < 5 → m_X2_readWord_p50 K n (t + 1) v a (nI p) (nI c) = if splB B p (ltP B L p) c = true then m_X2_readWord_p67 K n v a (nI c) else m_X2_readWord_p50 K n t v a (nI p) (nI (c + 1)) := fun c t hc => by
      rw [m_X2_readWord_p50, if_neg (show ¬ (5 : Int32) ≤ nI c from nI_ge hc (by decide)), txt_of hc, Option.bind_some, g.c, Option.bind_some, m_spells hn hK g hL a2 a1 hc, Option.bind_some]
      by_cases z : splB B p (ltP B L p) c = true
      · rw [if_pos z, if_neg ne1.1, if_pos z]
      · rw [if_neg z, if_pos rfl, if_neg z, nI_1]
    have hit : ∀ c, ∃ u, m_X2_readWord_p67 K n v a (nI c) = some (1, u) ∧ ScF u a L B (ltP B L p) fa (nI c) N ∧ Fr2 w u a := fun c => by
      obtain ⟨u, e1, h1, q1⟩ := g.p2 (nI c)
      exact ⟨u, by rw [m_X2_readWord_p67, e1, Option.bind_some], h1, q.tr q1⟩
    obtain ⟨m, rfl⟩ : ∃ m, n = m + 1 + 1 + 1 + 1 + 1 + 1 := ⟨n - 6, by omega⟩
    show ∃ z, m_X2_readWord_p50 K _ (m + 1 + 1 + 1 + 1 + 1 + 1) v a (nI p) (nI 0) = some z ∧ _
    rw [one 0 _ (by decide)]
    unfold wdF
    by_cases z0 : splB B p (ltP B L p) 0 = true
    · obtain ⟨u, e, s, f⟩ := hit 0
      rw [if_pos z0, if_pos z0]
      exact ⟨_, e, f, fun _ => ⟨rfl, s⟩, fun q => absurd q (by decide)⟩
    rw [if_neg z0, if_neg z0, one 1 _ (by decide)]
    by_cases z1 : splB B p (ltP B L p) 1 = true
    · obtain ⟨u, e, s, f⟩ := hit 1
      rw [if_pos z1, if_pos z1]
      exact ⟨_, e, f, fun _ => ⟨rfl, s⟩, fun q => absurd q (by decide)⟩
    rw [if_neg z1, if_neg z1, one 2 _ (by decide)]
    by_cases z2 : splB B p (ltP B L p) 2 = true
    · obtain ⟨u, e, s, f⟩ := hit 2
      rw [if_pos z2, if_pos z2]
      exact ⟨_, e, f, fun _ => ⟨rfl, s⟩, fun q => absurd q (by decide)⟩
    rw [if_neg z2, if_neg z2, one 3 _ (by decide)]
    by_cases z3 : splB B p (ltP B L p) 3 = true
    · obtain ⟨u, e, s, f⟩ := hit 3
      rw [if_pos z3, if_pos z3]
      exact ⟨_, e, f, fun _ => ⟨rfl, s⟩, fun q => absurd q (by decide)⟩
    rw [if_neg z3, if_neg z3, one 4 _ (by decide)]
    by_cases z4 : splB B p (ltP B L p) 4 = true
    · obtain ⟨u, e, s, f⟩ := hit 4
      rw [if_pos z4, if_pos z4]
      exact ⟨_, e, f, fun _ => ⟨rfl, s⟩, fun q => absurd q (by decide)⟩
    rw [if_neg z4, if_neg z4]
    obtain ⟨u, e1, h1, q1⟩ := g.p5 (nI p)
    refine ⟨(0, u), ?_, q.tr q1, fun q => absurd rfl q, fun _ => ⟨rfl, h1⟩⟩
    rw [m_X2_readWord_p50, if_pos (by decide), m_X2_readWord_p80, g.c, Option.bind_some, m_X2_failAt, e1, Option.bind_some, Option.bind_some]
    rfl
  refine lp (σ := Wd) (R := Int32 × Wd) (fun t k v => m_X2_readWord_p5 K n t v a (nI p)) (fun k v => p ≤ k ∧ ScF v a L B k fa wd N ∧ Fr2 w v a) _ (ltP B L p) ?_ ?_ (ltP B L p - p) p n w (by omega) (by omega) ⟨Nat.le_refl _, h, fun _ _ => rfl⟩
  · rintro t k v hk ⟨k1, h1, q1⟩
    left
    have hkL : k < L := Nat.lt_of_lt_of_le hk a2
    obtain ⟨v1, e1, h2, q2⟩ := h1.p4 (k + 1)
    refine ⟨v1, ?_, by omega, h2, q1.tr q2⟩
    show m_X2_readWord_p5 K n (t + 1) v a (nI p) = _
    rw [m_X2_readWord_p5, h1.i4, Option.bind_some, h1.i1, Option.bind_some, if_neg (nI_ge hkL (by omega)), h1.r0, Option.bind_some, Option.bind_some, h1.b hL hkL, Option.bind_some, if_neg (of_decide_eq_true (a3 k k1 hk)), Option.bind_some, nI_1, e1, Option.bind_some]
  · rintro t v ⟨k1, h1, q1⟩
    obtain ⟨z, e, hz⟩ := fin v h1 q1
    refine ⟨z, ?_, hz⟩
    show m_X2_readWord_p5 K n (t + 1) v a (nI p) = _
    rw [m_X2_readWord_p5, h1.i4, Option.bind_some, h1.i1, Option.bind_some]
    by_cases g : ltP B L p < L
    · rw [if_neg (nI_ge g (by omega)), h1.r0, Option.bind_some, Option.bind_some, h1.b hL g, Option.bind_some, if_pos (Decidable.not_not.mp (of_decide_eq_false (Bool.eq_false_iff.mpr fun q => a4 ⟨g, q⟩))), e]
    · rw [if_pos (nI_le (by omega) (by omega)), e]
theorem num_bd (hL : L ≤ 120) (hp : p ≤ L) : (numF B L p).2.1 ≤ L ∧ ((numF B L p).1 = true → p < (numF B L p).2.1) := by
  have h0 : ScF (fun q => if q = 0 then some (.inr (2, [.ref (0 + 1), .int (nI L), .int 0, .ref (0 + 2), .int (nI p), .int 0])) else if q = 1 then some (.inl (0, 120, .inl B)) else if q = 2 then some (.inl (0, 3, .inl fun _ => 0)) else none) 0 L B p 0 0 (fun _ => 0) := ⟨rfl, ⟨B, rfl, fun _ _ => rfl⟩, _, rfl, fun _ _ => rfl⟩
  obtain ⟨z, -, -, h1, h2, -⟩ := m_num (n := 200) (k := 0) (Nat.le_refl _) h0 hL hp (by decide)
  exact ⟨h1, fun q => (h2 q).2.1⟩
theorem nums_bd (hL : L ≤ 120) : ∀ (r k p : Nat) (V : Nat → Int32), p ≤ L → (numsF B L r k p V).2.1 ≤ L ∧ p ≤ (numsF B L r k p V).2.1 ∨ (numsF B L r k p V).1 = false ∧ (numsF B L r k p V).2.1 ≤ L
  | 0, _, p, _, h => Or.inl ⟨h, Nat.le_refl _⟩
  | r + 1, k, p, V, h => by
    obtain ⟨b1, b2⟩ := num_bd (B := B) hL h
    unfold numsF
    by_cases g : (numF B L p).1 = true
    · rw [if_pos g]
      have := b2 g
      rcases nums_bd hL r (k + 1) (numF B L p).2.1 (upd V k (numF B L p).2.2) b1 with ⟨c1, c2⟩ | c
      · exact Or.inl ⟨c1, by omega⟩
      · exact Or.inr c
    · rw [if_neg g]
      exact Or.inr ⟨rfl, b1⟩
theorem m_nums {m : Nat} (hn : 200 ≤ n) (hL : L ≤ 120) (hm : m ≤ 3) : ∀ (r k p t : Nat) (w : Wd) (N V : Nat → Int32), ScF w a L B p fa wd N → p ≤ L → k + r = m → r < t → (∀ i, i < k → N i = V i) →
    ((numsF B L r k p V).1 = true → ∃ w' N', m_X2_readCommand_p34 K n t w a (nI m) (nI k) = m_X2_readCommand_p55 K n w' a ∧ ScF w' a L B (numsF B L r k p V).2.1 fa wd N' ∧ (∀ i, i < m → N' i = (numsF B L r k p V).2.2 i) ∧ Fr2 w w' a) ∧
    ((numsF B L r k p V).1 = false → ∃ w' N' p', m_X2_readCommand_p34 K n t w a (nI m) (nI k) = some (0, w') ∧ ScF w' a L B p' (nI (numsF B L r k p V).2.1) wd N' ∧ Fr2 w w' a) := by
  intro r
  induction r with
  | zero =>
    intro k p t w N V h hp hk ht hN
    obtain ⟨t, rfl⟩ : ∃ u, t = u + 1 := ⟨t - 1, by omega⟩
    have : k = m := by omega
    subst this
    exact ⟨fun _ => ⟨w, N, by rw [m_X2_readCommand_p34, if_pos (Int32.le_refl _)], h, hN, fun _ _ => rfl⟩, fun q => tf q⟩
  | succ r ih =>
    intro k p t w N V h hp hk ht hN
    obtain ⟨t, rfl⟩ : ∃ u, t = u + 1 := ⟨t - 1, by omega⟩
    obtain ⟨z, e, q1, b1, b2, b3⟩ := m_num (n := n) (k := k) hn h hL hp (by omega)
    unfold numsF
    rw [m_X2_readCommand_p34, if_neg (nI_ge (by omega) (by omega)), h.c, Option.bind_some, e, Option.bind_some]
    by_cases g : (numF B L p).1 = true
    · obtain ⟨c1, c2, c3⟩ := b2 g
      rw [if_pos g, c1, if_neg ne1.1, nI_1]
      obtain ⟨d1, d2⟩ := ih (k + 1) (numF B L p).2.1 t z.2 _ (upd V k (numF B L p).2.2) c3 b1 (by omega) (by omega) fun i hi => by
        by_cases y : i = k
        · rw [y, pk_us, pk_us]
        · rw [pk_un y, pk_un y]
          exact hN i (by omega)
      refine ⟨fun q => ?_, fun q => ?_⟩
      · obtain ⟨w', N', x1, x2, x3, x4⟩ := d1 q
        exact ⟨w', N', x1, x2, x3, q1.tr x4⟩
      · obtain ⟨w', N', p', x1, x2, x3⟩ := d2 q
        exact ⟨w', N', p', x1, x2, q1.tr x3⟩
    · obtain ⟨c1, p', c2⟩ := b3 (Bool.eq_false_iff.mpr g)
      rw [if_neg g, c1, if_pos rfl]
      exact ⟨fun q => ft q, fun _ => ⟨z.2, N, p', rfl, c2, q1⟩⟩
theorem nmF_of {wd : Nat} (h : wd ≤ 5) (h0 : wd ≠ 0) : m_X2_numbersOf (nI (wd - 1)) = nI (nmF wd) := by
  rcases (show wd = 1 ∨ wd = 2 ∨ wd = 3 ∨ wd = 4 ∨ wd = 5 by omega) with rfl | rfl | rfl | rfl | rfl <;> rfl
theorem nmF_3 (wd : Nat) : nmF wd ≤ 3 := by
  unfold nmF
  split <;> omega
theorem cmd_bd (hL : L ≤ 120) (hp : p ≤ L) : (cmdF B L p).2.1 ≤ L ∧ ((cmdF B L p).1 = true → p < (cmdF B L p).2.1) := by
  obtain ⟨a1, a2, -, -⟩ := lt_c (B := B) hp hL
  unfold cmdF
  by_cases g0 : wdF B p (ltP B L p) = 0
  · rw [if_pos g0]
    exact ⟨hp, fun q => ft q⟩
  · rw [if_neg g0]
    generalize hr : (numsF B L (nmF (wdF B p (ltP B L p))) 0 (ltP B L p) fun _ => 0) = r
    have hb := nums_bd (B := B) hL (nmF (wdF B p (ltP B L p))) 0 (ltP B L p) (fun _ => 0) a2
    rw [hr] at hb
    by_cases g1 : r.1 = true
    · rw [if_pos g1]
      rcases hb with ⟨b1, b2⟩ | ⟨b1, -⟩
      · obtain ⟨c1, c2, -, -⟩ := spc_c (B := B) b1 hL
        by_cases g2 : nxB smi B L (spP B L r.2.1) = true
        · have := (nx_lt g2).1
          rw [if_pos g2]
          exact ⟨this, fun _ => show p < spP B L r.2.1 + 1 by omega⟩
        · rw [if_neg g2]
          exact ⟨c2, fun q => ft q⟩
      · rw [b1] at g1
        exact ft g1
    · rw [if_neg g1]
      rcases hb with ⟨b1, -⟩ | ⟨-, b1⟩ <;> exact ⟨b1, fun q => ft q⟩
/-- the class reads a command -/
theorem m_cmd (hn : 200 ≤ n) (hK : KI K) (h : ScF w a L B p fa wd N) (hL : L ≤ 120) (hp : p ≤ L) :
    (spP B L p = L → ∃ w', m_X2_readCommand K n w a = some (0, w') ∧ ScF w' a L B L fa wd N ∧ Fr2 w w' a) ∧
    (spP B L p < L → (cmdF B L (spP B L p)).1 = true → ∃ w' N', m_X2_readCommand K n w a = some (1, w') ∧ ScF w' a L B (cmdF B L (spP B L p)).2.1 fa (nI ((cmdF B L (spP B L p)).2.2.1 - 1)) N' ∧ (cmdF B L (spP B L p)).2.2.1 ≠ 0 ∧ (∀ i, i < nmF (cmdF B L (spP B L p)).2.2.1 → N' i = (cmdF B L (spP B L p)).2.2.2 i) ∧ Fr2 w w' a) ∧
    (spP B L p < L → (cmdF B L (spP B L p)).1 = false → ∃ w' p' wd' N', m_X2_readCommand K n w a = some (0, w') ∧ ScF w' a L B p' (nI (cmdF B L (spP B L p)).2.1) wd' N' ∧ Fr2 w w' a) := by
  obtain ⟨w1, e1, h1, q1⟩ := m_spaces hn h hL hp
  obtain ⟨a1, a2, -, -⟩ := spc_c (B := B) hp hL
  generalize spP B L p = s at *
  have base : m_X2_readCommand K n w a = if nI s = nI L then some (0, w1) else (m_X2_readWord K n w1 a).bind fun z6 => if z6.1 = 0 then some (0, z6.2) else (gfI 2 2 z6.2 a).bind fun x7 => m_X2_readCommand_p34 K n n z6.2 a (m_X2_numbersOf x7) 0 := by
    rw [m_X2_readCommand, h.c, Option.bind_some, e1, Option.bind_some, h1.i4, Option.bind_some, h1.i1, Option.bind_some, h1.c, Option.bind_some]
  rw [base]
  refine ⟨fun q => ⟨w1, by rw [if_pos (by rw [q])], by rw [← q]; exact q ▸ h1, q1⟩, ?_⟩
  suffices hm : s < L → ((cmdF B L s).1 = true → ∃ w' N', (if nI s = nI L then some (0, w1) else (m_X2_readWord K n w1 a).bind fun z6 => if z6.1 = 0 then some (0, z6.2) else (gfI 2 2 z6.2 a).bind fun x7 => m_X2_readCommand_p34 K n n z6.2 a (m_X2_numbersOf x7) 0) = some (1, w') ∧ ScF w' a L B (cmdF B L s).2.1 fa (nI ((cmdF B L s).2.2.1 - 1)) N' ∧ (cmdF B L s).2.2.1 ≠ 0 ∧ (∀ i, i < nmF (cmdF B L s).2.2.1 → N' i = (cmdF B L s).2.2.2 i) ∧ Fr2 w w' a) ∧ ((cmdF B L s).1 = false → ∃ w' p' wd' N', (if nI s = nI L then some (0, w1) else (m_X2_readWord K n w1 a).bind fun z6 => if z6.1 = 0 then some (0, z6.2) else (gfI 2 2 z6.2 a).bind fun x7 => m_X2_readCommand_p34 K n n z6.2 a (m_X2_numbersOf x7) 0) = some (0, w') ∧ ScF w' a L B p' (nI (cmdF B L s).2.1) wd' N' ∧ Fr2 w w' a) from ⟨fun x y => (hm x).1 y, fun x y => (hm x).2 y⟩
  intro hs
  rw [if_neg (fun q => by have := (nI_eq (by omega) (by omega)).mp q; omega)]
  obtain ⟨z, e2, q2, b1, b0⟩ := m_word hn hK h1 hL a2
  obtain ⟨l1, l2, -, -⟩ := lt_c (B := B) a2 hL
  have hw5 := wd_5 B s (ltP B L s)
  unfold cmdF
  rw [e2, Option.bind_some]
  by_cases g0 : wdF B s (ltP B L s) = 0
  · obtain ⟨c1, c2⟩ := b0 g0
    rw [if_pos g0, c1, if_pos rfl]
    exact ⟨fun q => ft q, fun _ => ⟨z.2, _, _, _, rfl, c2, q1.tr q2⟩⟩
  · obtain ⟨c1, c2⟩ := b1 g0
    rw [if_neg g0, c1, if_neg ne1.1, c2.i2, Option.bind_some, nmF_of hw5 g0]
    generalize hr : (numsF B L (nmF (wdF B s (ltP B L s))) 0 (ltP B L s) fun _ => 0) = r
    have hb := nums_bd (B := B) hL (nmF (wdF B s (ltP B L s))) 0 (ltP B L s) (fun _ => 0) l2
    obtain ⟨d1, d0⟩ := m_nums (K := K) hn hL (nmF_3 (wdF B s (ltP B L s))) (nmF (wdF B s (ltP B L s))) 0 (ltP B L s) n z.2 N (fun _ => 0) c2 l2 (by omega) (by have := nmF_3 (wdF B s (ltP B L s)); omega) fun i hi => absurd hi (Nat.not_lt_zero _)
    rw [hr] at hb d1 d0
    by_cases g1 : r.1 = true
    · obtain ⟨w3, N3, e3, h3, n3, q3⟩ := d1 g1
      have b1 : r.2.1 ≤ L := by
        rcases hb with ⟨b1, -⟩ | ⟨-, b1⟩ <;> exact b1
      obtain ⟨w4, e4, h4, q4⟩ := m_spaces hn h3 hL b1
      obtain ⟨s1, s2, -, -⟩ := spc_c (B := B) b1 hL
      obtain ⟨w5, e5, y1, y0, q5⟩ := m_passB (n := n) (x := 59) h4 hL s2 (by decide)
      have Q : Fr2 w w5 a := (((q1.tr q2).tr q3).tr q4).tr q5
      have e6 : m_X2_readCommand_p34 K n n z.2 a (nI (nmF (wdF B s (ltP B L s)))) 0 = some (if nxB smi B L (spP B L r.2.1) = true then 1 else 0, w5) := by
        refine e3.trans ?_
        have e5' : m_X2_passByte n w4 a 59 = some (if nxB smi B L (spP B L r.2.1) = true then 1 else 0, w5) := e5
        rw [m_X2_readCommand_p55, h3.c, Option.bind_some, e4, Option.bind_some, h4.c, Option.bind_some, e5', Option.bind_some]
        by_cases y : nxB smi B L (spP B L r.2.1) = true
        · rw [if_pos y]
          rfl
        · rw [if_neg y]
          rfl
      rw [if_pos g1, e6]
      by_cases g2 : nxB smi B L (spP B L r.2.1) = true
      · rw [if_pos g2, if_pos g2]
        exact ⟨fun _ => ⟨w5, N3, rfl, y1 g2, g0, n3, Q⟩, fun q => tf q⟩
      · rw [if_neg g2, if_neg g2]
        exact ⟨fun q => ft q, fun _ => ⟨w5, _, _, _, rfl, y0 (Bool.eq_false_iff.mpr g2), Q⟩⟩
    · obtain ⟨w3, N3, p3, e3, h3, q3⟩ := d0 (Bool.eq_false_iff.mpr g1)
      rw [if_neg g1, show m_X2_readCommand_p34 K n n z.2 a (nI (nmF (wdF B s (ltP B L s)))) 0 = some (0, w3) from e3]
      exact ⟨fun q => ft q, fun _ => ⟨w3, _, _, _, rfl, h3, (q1.tr q2).tr q3⟩⟩
/-- 0 for no fault, else the fault and one more -/
def fltF (B : Nat → Int32) (L : Nat) : Nat → Nat → Nat
  | 0, _ => 0
  | f + 1, p => if L ≤ spP B L p then 0 else if (cmdF B L (spP B L p)).1 = true then fltF B L f (cmdF B L (spP B L p)).2.1 else (cmdF B L (spP B L p)).2.1 + 1
theorem flt_s (B : Nat → Int32) (L f p : Nat) : fltF B L (f + 1) p = if L ≤ spP B L p then 0 else if (cmdF B L (spP B L p)).1 = true then fltF B L f (cmdF B L (spP B L p)).2.1 else (cmdF B L (spP B L p)).2.1 + 1 := rfl
theorem m_fault (hn : 200 ≤ n) (hK : KI K) (h : ScF w a L B p fa wd N) (hL : L ≤ 120) : ∃ z, m_X2_findFault K n w a = some z ∧ z.1 = laI (fltF B L 121 0) ∧ (∃ p' fa' wd' N', ScF z.2 a L B p' fa' wd' N') ∧ Fr2 w z.2 a := by
  obtain ⟨w1, e1, h1, q1⟩ := h.p4 0
  obtain ⟨w2, e2, h2, q2⟩ := h1.p5 (-1)
  rw [m_X2_findFault, h.c, Option.bind_some, m_X2_rewind, show pfV 2 4 w a (.int 0) = some w1 from e1, Option.bind_some, e2, Option.bind_some, Option.bind_some]
  refine lp (σ := Nat × Wd) (R := Int32 × Wd) (fun t j s => m_X2_findFault_p6 K n t s.2 a (nI j)) (fun j s => j ≤ s.1 ∧ s.1 ≤ L ∧ fltF B L (121 - j) s.1 = fltF B L 121 0 ∧ (∃ wd' N', ScF s.2 a L B s.1 (-1) wd' N') ∧ Fr2 w s.2 a) _ 120 ?_ ?_ 120 0 n (0, w2) rfl (by omega) ⟨Nat.zero_le _, Nat.zero_le _, rfl, ⟨_, _, h2⟩, q1.tr q2⟩
  · rintro t j ⟨p, v⟩ hj ⟨j1, j2, j3, ⟨wd', N', h3⟩, q3⟩
    change j ≤ p at j1
    change p ≤ L at j2
    change fltF B L (121 - j) p = fltF B L 121 0 at j3
    change ScF v a L B p (-1) wd' N' at h3
    change Fr2 w v a at q3
    obtain ⟨c1, c2, c3⟩ := m_cmd (K := K) hn hK h3 hL j2
    obtain ⟨s1, s2, -, -⟩ := spc_c (B := B) j2 hL
    rw [show 121 - j = 121 - (j + 1) + 1 by omega, flt_s] at j3
    show (∃ s' : Nat × Wd, m_X2_findFault_p6 K n (t + 1) v a (nI j) = m_X2_findFault_p6 K n t s'.2 a (nI (j + 1)) ∧ _) ∨ ∃ r, m_X2_findFault_p6 K n (t + 1) v a (nI j) = some r ∧ _
    rw [m_X2_findFault_p6, if_neg (show ¬ (120 : Int32) ≤ nI j from nI_ge hj (by decide)), h3.c, Option.bind_some]
    by_cases g : L ≤ spP B L p
    · right
      obtain ⟨w', e, h4, q4⟩ := c1 (by omega)
      rw [if_pos g] at j3
      refine ⟨(-1, w'), by rw [e, Option.bind_some, if_pos rfl, h4.i5, Option.bind_some], ?_, ⟨_, _, _, _, h4⟩, q3.tr q4⟩
      rw [← j3]
      rfl
    · rw [if_neg g] at j3
      by_cases g2 : (cmdF B L (spP B L p)).1 = true
      · left
        obtain ⟨w', N2, e, h4, -, -, q4⟩ := c2 (by omega) g2
        obtain ⟨d1, d2⟩ := cmd_bd (B := B) hL s2
        rw [if_pos g2] at j3
        have := d2 g2
        refine ⟨((cmdF B L (spP B L p)).2.1, w'), by rw [e, Option.bind_some, if_neg ne1.1, nI_1], show j + 1 ≤ (cmdF B L (spP B L p)).2.1 by omega, d1, j3, ⟨_, _, h4⟩, q3.tr q4⟩
      · right
        obtain ⟨w', p2, wd2, N2, e, h4, q4⟩ := c3 (by omega) (Bool.eq_false_iff.mpr g2)
        rw [if_neg g2] at j3
        refine ⟨(nI (cmdF B L (spP B L p)).2.1, w'), by rw [e, Option.bind_some, if_pos rfl, h4.i5, Option.bind_some], ?_, ⟨_, _, _, _, h4⟩, q3.tr q4⟩
        rw [← j3]
        show nI _ = laI _
        unfold laI
        rw [if_neg (by omega), Nat.add_sub_cancel]
  · rintro t ⟨p, v⟩ ⟨j1, j2, j3, ⟨wd', N', h3⟩, q3⟩
    change 120 ≤ p at j1
    change p ≤ L at j2
    change fltF B L 1 p = fltF B L 121 0 at j3
    change ScF v a L B p (-1) wd' N' at h3
    obtain ⟨s1, s2, -, -⟩ := spc_c (B := B) j2 hL
    refine ⟨(-1, v), ?_, ?_, ⟨_, _, _, _, h3⟩, q3⟩
    · show m_X2_findFault_p6 K n (t + 1) v a (nI 120) = _
      rw [m_X2_findFault_p6, if_pos (by decide), h3.i5, Option.bind_some]
    · rw [show fltF B L 1 p = if L ≤ spP B L p then 0 else if (cmdF B L (spP B L p)).1 = true then fltF B L 0 (cmdF B L (spP B L p)).2.1 else (cmdF B L (spP B L p)).2.1 + 1 from rfl, if_pos (by omega)] at j3
      rw [← j3]
      rfl
end WD
