/-! SCRIPTS: the reference reads a command -/
section RC
variable {n b L p : Nat} {w v : Wd} {I : Nat → Int32} {J : Nat → Int64} {A : Rw} {B : Nat → Int32} {wd : Int32} {N : Nat → Int32}
theorem wvN_lt {q : Nat} (hl : ∀ k, p ≤ k → k < q → isLt (B k) = true) : ∀ k, p + k ≤ q → wvN B p k < 27 ^ k
  | 0, _ => Nat.zero_lt_one
  | k + 1, h => by
    have h1 := wvN_lt hl k (by omega)
    obtain ⟨b1, b2, -⟩ := lt_b (hl (p + k) (by omega) (by omega))
    show 27 * wvN B p k + (bN B (p + k) - 96) < 27 ^ (k + 1)
    rw [Nat.pow_succ]
    omega
theorem k_word {q : Nat} (hn : 200 ≤ n) (H : Rs w b I J A v q wd N) (h120 : L ≤ 120) (hB : ∀ k, k < L → A 3 k = B k) (hpq : p ≤ q) (hq : q ≤ L) (hl : ∀ k, p ≤ k → k < q → isLt (B k) = true) : m_X7_wordFrom n v b (nI p) = some (nI (wdF B p q)) := by
  unfold m_X7_wordFrom
  by_cases g : q - p ≤ 5
  · obtain ⟨x, e, hx⟩ := lp (σ := Unit) (R := Int32) (fun t k _ => m_X7_wordFrom_p4 n t v b (nI p) (nI (wvN B p (k - p))) (nI k)) (fun k _ => p ≤ k) (fun x => x = nI (wdF B p q)) q (by
      rintro t k ⟨⟩ hk k1
      left
      refine ⟨(), ?_, by omega⟩
      obtain ⟨b1, b2, b3⟩ := lt_b (hl k k1 hk)
      have hv := wvN_lt hl (k - p) (by omega)
      have h27 : 27 ^ (k - p) ≤ 27 ^ 5 := Nat.pow_le_pow_right (by decide) (by omega)
      have h27' : (27 : Nat) ^ 5 = 14348907 := by decide
      rw [m_X7_wordFrom_p4, H.i16, Option.bind_some, if_neg (nI_ge hk (by omega)), Option.bind_some, pk_sub hpq, if_pos (show nI (q - p) ≤ 5 from nI_le (b := 5) g (by decide)), H.g5, Option.bind_some, H.by (show k < L by omega) h120 hB, Option.bind_some, b3, show (27 : Int32) = nI 27 from rfl, pk_mul, nI_add, show (97 : Int32) = nI 97 from rfl, pk_sub (by omega), nI_1, nI_1]
      have e1 : wvN B p (k + 1 - p) = 27 * wvN B p (k - p) + (bN B k - 96) := by
        rw [show k + 1 - p = (k - p) + 1 by omega]
        show 27 * wvN B p (k - p) + (bN B (p + (k - p)) - 96) = _
        rw [show p + (k - p) = k by omega]
      rw [e1, show 27 * wvN B p (k - p) + bN B k - 97 + 1 = 27 * wvN B p (k - p) + (bN B k - 96) by omega]) (by
      rintro t ⟨⟩ k1
      refine ⟨_, ?_, rfl⟩
      have hv := wvN_lt hl (q - p) (by omega)
      have h27 : 27 ^ (q - p) ≤ 27 ^ 5 := Nat.pow_le_pow_right (by decide) (by omega)
      have h27' : (27 : Nat) ^ 5 = 14348907 := by decide
      rw [m_X7_wordFrom_p4, H.i16, Option.bind_some, if_pos (Int32.le_refl _), k_w49 (by omega), wd_sum hpq g hl]) (q - p) p n () (by omega) (by omega) (Nat.le_refl _)
    rw [hx, Nat.sub_self] at e
    exact e
  · obtain ⟨x, e, hx⟩ := lp (σ := Unit) (R := Int32) (fun t k _ => m_X7_wordFrom_p4 n t v b (nI p) 0 (nI k)) (fun k _ => p ≤ k) (fun x => x = nI (wdF B p q)) q (by
      rintro t k ⟨⟩ hk k1
      left
      refine ⟨(), ?_, by omega⟩
      rw [m_X7_wordFrom_p4, H.i16, Option.bind_some, if_neg (nI_ge hk (by omega)), Option.bind_some, pk_sub hpq, if_neg (show ¬ nI (q - p) ≤ 5 from nI_ge (a := 5) (by omega) (by omega)), nI_1]) (by
      rintro t ⟨⟩ k1
      refine ⟨_, ?_, rfl⟩
      rw [m_X7_wordFrom_p4, H.i16, Option.bind_some, if_pos (Int32.le_refl _), wd_long (by omega)]
      rfl) (q - p) p n () (by omega) (by omega) (Nat.le_refl _)
    rw [hx] at e
    exact e
theorem k_num32 {k : Nat} {sg : Nat} (H : Rs w b I J A v p wd N) (hL : I 6 = nI L) (h120 : L ≤ 120) (hB : ∀ k, k < L → A 3 k = B k) (hp : p + sg ≤ L) (hk : k < 3) (ng : Bool) : ∃ z, m_X7_readsNumber_p32 n v (nI sg) (nI p) b b (nI k) (bI ng) = some z ∧
    (nxB isDg B L (p + sg) = true → z.1 = 1 ∧ Rs w b I J A z.2 (if nxB isDg B L (p + sg + 1) = true then p + sg + 1 + 1 else p + sg + 1) wd (upd N k (if nxB isDg B L (p + sg + 1) = true then (if ng then -((10 * (B (p + sg) - 48)) + B (p + sg + 1) - 48) else (10 * (B (p + sg) - 48)) + B (p + sg + 1) - 48) else (if ng then -(B (p + sg) - 48) else B (p + sg) - 48)))) ∧
    (nxB isDg B L (p + sg) = false → z.1 = 0 ∧ Rs w b I J A z.2 (p + sg) wd N) := by
  obtain ⟨w1, e1, h1⟩ := H.p16 (p + sg)
  rw [m_X7_readsNumber_p32, nI_add, e1, Option.bind_some]
  generalize p + sg = p at *
  have dg : ∀ u k, k ≤ L → Rs w b I J A u k wd N → m_X7_isAt n u b 48 57 = some (if nxB isDg B L k = true then 1 else 0) := fun u k hk h => k_isAt h hL h120 hB hk
  rw [h1.c, Option.bind_some, dg w1 p hp h1, Option.bind_some]
  by_cases g : nxB isDg B L p = true
  · have hpL := (nx_lt g).1
    obtain ⟨w2, e2, h2⟩ := h1.p16 (p + 1)
    rw [if_pos g, if_neg ne1.1, h1.g5, Option.bind_some, h1.i16, Option.bind_some, h1.by hpL h120 hB, Option.bind_some, Option.bind_some, nI_1, e2, Option.bind_some, h2.c, Option.bind_some, dg w2 (p + 1) hpL h2, Option.bind_some]
    by_cases g2 : nxB isDg B L (p + 1) = true
    · have hpL2 := (nx_lt g2).1
      obtain ⟨w3, e3, h3⟩ := h2.p16 (p + 1 + 1)
      rw [if_pos g2, if_neg ne1.1, h2.g5, Option.bind_some, h2.i16, Option.bind_some, h2.by hpL2 h120 hB, Option.bind_some, Option.bind_some, nI_1, e3, Option.bind_some, h3.g18, Option.bind_some, if_pos g2, if_pos g2]
      cases ng with
      | true =>
        obtain ⟨w4, e4, h4⟩ := h3.nw (-((10 * (B p - 48)) + B (p + 1) - 48)) hk
        exact ⟨(1, w4), by rw [if_neg (show ¬ bI true = 0 by decide), e4, Option.bind_some], fun _ => ⟨rfl, h4⟩, fun q => by rw [g] at q; exact tf q⟩
      | false =>
        obtain ⟨w4, e4, h4⟩ := h3.nw ((10 * (B p - 48)) + B (p + 1) - 48) hk
        exact ⟨(1, w4), by rw [if_pos (show bI false = 0 from rfl), e4, Option.bind_some], fun _ => ⟨rfl, h4⟩, fun q => by rw [g] at q; exact tf q⟩
    · rw [if_neg g2, if_pos rfl, h2.g18, Option.bind_some, if_neg g2, if_neg g2]
      cases ng with
      | true =>
        obtain ⟨w4, e4, h4⟩ := h2.nw (-(B p - 48)) hk
        exact ⟨(1, w4), by rw [if_neg (show ¬ bI true = 0 by decide), e4, Option.bind_some], fun _ => ⟨rfl, h4⟩, fun q => by rw [g] at q; exact tf q⟩
      | false =>
        obtain ⟨w4, e4, h4⟩ := h2.nw (B p - 48) hk
        exact ⟨(1, w4), by rw [if_pos (show bI false = 0 from rfl), e4, Option.bind_some], fun _ => ⟨rfl, h4⟩, fun q => by rw [g] at q; exact tf q⟩
  · exact ⟨(0, w1), by rw [if_neg g, if_pos rfl], fun q => absurd q g, fun _ => ⟨rfl, h1⟩⟩
theorem k_num {k : Nat} (hn : 200 ≤ n) (H : Rs w b I J A v p wd N) (hL : I 6 = nI L) (h120 : L ≤ 120) (hB : ∀ k, k < L → A 3 k = B k) (hp : p ≤ L) (hk : k < 3) : ∃ z, m_X7_readsNumber n v b (nI k) = some z ∧ ((numF B L p).1 = true → z.1 = 1 ∧ Rs w b I J A z.2 (numF B L p).2.1 wd (upd N k (numF B L p).2.2)) ∧ ((numF B L p).1 = false → z.1 = 0 ∧ Rs w b I J A z.2 (numF B L p).2.1 wd N) := by
  obtain ⟨w1, e1, h1⟩ := k_skips hn H hL h120 hB hp
  obtain ⟨s1, s2, s3, s4⟩ := spc_c (B := B) hp h120
  rw [m_X7_readsNumber, H.c, Option.bind_some, e1, Option.bind_some]
  unfold numF
  by_cases g : nxB isSp B L p = true
  · rw [if_pos g, if_pos g, if_neg ne1.1, h1.c, Option.bind_some, k_at1 (x := 45) h1 hL h120 hB s2, Option.bind_some, h1.i16, Option.bind_some]
    by_cases g2 : nxB (fun x => decide (x = 45)) B L (spP B L p) = true
    · have hpL2 := (nx_lt g2).1
      obtain ⟨z, e4, d1, d0⟩ := k_num32 (n := n) (sg := 1) h1 hL h120 hB (by omega) hk true
      refine ⟨z, ?_, ?_⟩
      · rw [if_pos g2, if_neg ne1.1]
        exact e4
      · rw [if_pos g2]
        by_cases g3 : nxB isDg B L (spP B L p + 1) = true
        · obtain ⟨b1, b2⟩ := d1 g3
          rw [if_pos g3]
          by_cases g4 : nxB isDg B L (spP B L p + 1 + 1) = true
          · rw [if_pos g4, if_pos g4] at b2
            rw [if_pos g4]
            exact ⟨fun _ => ⟨b1, b2⟩, fun q => tf q⟩
          · rw [if_neg g4, if_neg g4] at b2
            rw [if_neg g4]
            exact ⟨fun _ => ⟨b1, b2⟩, fun q => tf q⟩
        · obtain ⟨b1, b2⟩ := d0 (Bool.eq_false_iff.mpr g3)
          rw [if_neg g3]
          exact ⟨fun q => ft q, fun _ => ⟨b1, b2⟩⟩
    · obtain ⟨z, e4, d1, d0⟩ := k_num32 (n := n) (sg := 0) h1 hL h120 hB (by omega) hk false
      refine ⟨z, ?_, ?_⟩
      · rw [if_neg g2, if_pos rfl]
        exact e4
      · rw [if_neg g2]
        by_cases g3 : nxB isDg B L (spP B L p) = true
        · obtain ⟨b1, b2⟩ := d1 g3
          rw [if_pos g3]
          by_cases g4 : nxB isDg B L (spP B L p + 1) = true
          · rw [if_pos (show nxB isDg B L (spP B L p + 0 + 1) = true from g4), if_pos (show nxB isDg B L (spP B L p + 0 + 1) = true from g4)] at b2
            rw [if_pos g4]
            exact ⟨fun _ => ⟨b1, b2⟩, fun q => tf q⟩
          · rw [if_neg (show ¬ nxB isDg B L (spP B L p + 0 + 1) = true from g4), if_neg (show ¬ nxB isDg B L (spP B L p + 0 + 1) = true from g4)] at b2
            rw [if_neg g4]
            exact ⟨fun _ => ⟨b1, b2⟩, fun q => tf q⟩
        · obtain ⟨b1, b2⟩ := d0 (Bool.eq_false_iff.mpr g3)
          rw [if_neg g3]
          exact ⟨fun q => ft q, fun _ => ⟨b1, b2⟩⟩
  · rw [if_neg g, if_neg g]
    have e0 : spP B L p = p := by
      rcases Nat.lt_or_ge p (spP B L p) with q | q
      · exact absurd (show nxB isSp B L p = true by unfold nxB; rw [decide_eq_true (show p < L by omega), s3 p (Nat.le_refl _) q]; rfl) g
      · omega
    rw [e0] at h1
    exact ⟨(0, w1), by rw [if_pos rfl], fun q => ft q, fun _ => ⟨rfl, h1⟩⟩
theorem k_p102 (hn : 200 ≤ n) (H : Rs w b I J A v p wd N) (hL : I 6 = nI L) (h120 : L ≤ 120) (hB : ∀ k, k < L → A 3 k = B k) (hp : p ≤ L) : (∃ v', m_X7_reads_p102 n v b 0 = some (0, v') ∧ Rs w b I J A v' p wd N) ∧ ∃ v', m_X7_reads_p102 n v b 1 = some (if nxB smi B L (spP B L p) = true then 1 else 0, v') ∧ Rs w b I J A v' (if nxB smi B L (spP B L p) = true then spP B L p + 1 else spP B L p) wd N := by
  refine ⟨⟨v, by rw [m_X7_reads_p102, if_pos rfl]; rfl, H⟩, ?_⟩
  obtain ⟨w1, e1, h1⟩ := k_skips hn H hL h120 hB hp
  obtain ⟨s1, s2, s3, s4⟩ := spc_c (B := B) hp h120
  have ea : m_X7_isAt n w1 b 59 59 = some (if nxB smi B L (spP B L p) = true then 1 else 0) := k_at1 (x := 59) h1 hL h120 hB s2
  rw [m_X7_reads_p102, if_neg ne1.1, H.c, Option.bind_some, e1, Option.bind_some, h1.c, Option.bind_some, ea, Option.bind_some, h1.i16, Option.bind_some]
  by_cases g : nxB smi B L (spP B L p) = true
  · obtain ⟨w2, e2, h2⟩ := h1.p16 (spP B L p + 1)
    rw [if_pos g, if_pos g, if_neg ne1.1, nI_1, e2, Option.bind_some]
    exact ⟨w2, rfl, h2⟩
  · obtain ⟨w2, e2, h2⟩ := h1.p16 (spP B L p)
    rw [if_neg g, if_neg g, if_pos rfl, Int32.add_zero, e2, Option.bind_some]
    exact ⟨w2, rfl, h2⟩
theorem k_nums {m : Nat} (hn : 200 ≤ n) (hL : I 6 = nI L) (h120 : L ≤ 120) (hB : ∀ k, k < L → A 3 k = B k) (hm : m ≤ 3) : ∀ (r k p t : Nat) (v : Wd) (N V : Nat → Int32), Rs w b I J A v p wd N → p ≤ L → k + r = m → r + 1 < t → (∀ i, i < k → N i = V i) →
    ((numsF B L r k p V).1 = true → ∃ v' N', m_X7_reads_p79 n t v b (nI m) 1 (nI k) = m_X7_reads_p102 n v' b 1 ∧ Rs w b I J A v' (numsF B L r k p V).2.1 wd N' ∧ (∀ i, i < m → N' i = (numsF B L r k p V).2.2 i)) ∧
    ((numsF B L r k p V).1 = false → ∃ v' N', m_X7_reads_p79 n t v b (nI m) 1 (nI k) = m_X7_reads_p102 n v' b 0 ∧ Rs w b I J A v' (numsF B L r k p V).2.1 wd N') := by
  intro r
  induction r with
  | zero =>
    intro k p t v N V h hp hk ht hN
    obtain ⟨t, rfl⟩ : ∃ u, t = u + 1 := ⟨t - 1, by omega⟩
    have : k = m := by omega
    subst this
    exact ⟨fun _ => ⟨v, N, by rw [m_X7_reads_p79, if_pos (Int32.le_refl _)], h, hN⟩, fun q => tf q⟩
  | succ r ih =>
    intro k p t v N V h hp hk ht hN
    obtain ⟨t, rfl⟩ : ∃ u, t = u + 1 := ⟨t - 1, by omega⟩
    obtain ⟨z, e, b2, b3⟩ := k_num (n := n) (k := k) hn h hL h120 hB hp (by omega)
    unfold numsF
    rw [m_X7_reads_p79, if_neg (nI_ge (by omega) (by omega)), if_neg ne1.1, h.c, Option.bind_some, e, Option.bind_some, nI_1]
    by_cases g : (numF B L p).1 = true
    · obtain ⟨c1, c3⟩ := b2 g
      have b1 := (num_bd (B := B) h120 hp).1
      rw [if_pos g, c1]
      exact ih (k + 1) (numF B L p).2.1 t z.2 _ (upd V k (numF B L p).2.2) c3 b1 (by omega) (by omega) fun i hi => by
        by_cases y : i = k
        · rw [y, pk_us, pk_us]
        · rw [pk_un y, pk_un y]
          exact hN i (by omega)
    · obtain ⟨c1, c2⟩ := b3 (Bool.eq_false_iff.mpr g)
      rw [if_neg g, c1]
      obtain ⟨t, rfl⟩ : ∃ u, t = u + 1 := ⟨t - 1, by omega⟩
      refine ⟨fun q => ft q, fun _ => ⟨z.2, N, ?_, c2⟩⟩
      rw [m_X7_reads_p79]
      by_cases y : nI m ≤ nI (k + 1)
      · rw [if_pos y]
      · rw [if_neg y, if_pos rfl]
theorem k_cmd {s : Nat} (hn : 200 ≤ n) (H : Rs w b I J A v s wd N) (hL : I 6 = nI L) (h120 : L ≤ 120) (hB : ∀ k, k < L → A 3 k = B k) (hp : s ≤ L) :
    ((cmdF B L s).1 = true → ∃ v' N', m_X7_reads n v b = some (1, v') ∧ Rs w b I J A v' (cmdF B L s).2.1 (nI (cmdF B L s).2.2.1) N' ∧ ∀ i, i < nmF (cmdF B L s).2.2.1 → N' i = (cmdF B L s).2.2.2 i) ∧
    ((cmdF B L s).1 = false → ∃ v' wd' N', m_X7_reads n v b = some (0, v') ∧ Rs w b I J A v' (cmdF B L s).2.1 wd' N') := by
  obtain ⟨l1, l2, l3, l4⟩ := lt_c (B := B) hp h120
  have hw5 := wd_5 B s (ltP B L s)
  have at1 : ∀ u k, k ≤ L → Rs w b I J A u k wd N → m_X7_isAt n u b 97 122 = some (if nxB isLt B L k = true then 1 else 0) := fun u k hk h => k_isAt h hL h120 hB hk
  obtain ⟨z, e, u, e0, h0⟩ : ∃ z, m_X7_reads n v b = z ∧ ∃ u, z = m_X7_reads_p29 n u b (nI s) ∧ Rs w b I J A u (ltP B L s) wd N := by
    rw [m_X7_reads, H.i16, Option.bind_some]
    obtain ⟨u, e, hu⟩ := lpk (σ := Wd) (τ := Wd) (R := Option (Int32 × Wd)) (fun t k u => m_X7_reads_p5 n t u b (nI s)) (fun u => m_X7_reads_p29 n u b (nI s)) (fun k u => s ≤ k ∧ Rs w b I J A u k wd N) (fun u => Rs w b I J A u (ltP B L s) wd N) (ltP B L s) (by
      rintro t k u hk ⟨k1, h1⟩
      left
      have hkL : k < L := Nat.lt_of_lt_of_le hk l2
      obtain ⟨u1, e1, h2⟩ := h1.p16 (k + 1)
      refine ⟨u1, ?_, by omega, h2⟩
      show m_X7_reads_p5 n (t + 1) u b (nI s) = _
      rw [m_X7_reads_p5, h1.c, Option.bind_some, at1 u k (by omega) h1, Option.bind_some, if_pos (show nxB isLt B L k = true by unfold nxB; rw [decide_eq_true hkL, l3 k k1 hk]; rfl), if_neg ne1.1, h1.i16, Option.bind_some, nI_1, e1, Option.bind_some]) (by
      rintro t u ⟨k1, h1⟩
      refine ⟨u, ?_, h1⟩
      show m_X7_reads_p5 n (t + 1) u b (nI s) = _
      rw [m_X7_reads_p5, h1.c, Option.bind_some, at1 u _ l2 h1, Option.bind_some, if_neg (show ¬ nxB isLt B L (ltP B L s) = true from fun q => l4 (nx_lt q)), if_pos rfl]) (ltP B L s - s) s n v (by omega) (by omega) ⟨Nat.le_refl _, H⟩
    exact ⟨_, e, u, rfl, hu⟩
  rw [e, e0, m_X7_reads_p29, h0.c, Option.bind_some, k_word hn h0 h120 hB l1 l2 l3, Option.bind_some]
  obtain ⟨v1, e1, h1⟩ := h0.p17 (nI (wdF B s (ltP B L s)))
  rw [e1, Option.bind_some, h1.i17, Option.bind_some]
  unfold cmdF
  by_cases g0 : wdF B s (ltP B L s) = 0
  · obtain ⟨v2, e2, h2⟩ := h1.p16 s
    rw [if_pos g0, if_pos (show nI (wdF B s (ltP B L s)) = 0 by rw [g0]; rfl), e2, Option.bind_some]
    exact ⟨fun q => ft q, fun _ => ⟨v2, _, _, rfl, h2⟩⟩
  · have hne : ¬ nI (wdF B s (ltP B L s)) = 0 := nI_ne0 (by omega) (by omega)
    rw [if_neg g0, if_neg hne, Option.bind_some]
    have sel : (if nI (wdF B s (ltP B L s)) = 3 then m_X7_reads_p79 n n v1 b 1 1 0 else (some (nI (wdF B s (ltP B L s)))).bind fun x6 => if x6 = 5 then m_X7_reads_p79 n n v1 b 1 1 0 else m_X7_reads_p79 n n v1 b 3 1 0) = m_X7_reads_p79 n n v1 b (nI (nmF (wdF B s (ltP B L s)))) 1 (nI 0) := by
      generalize wdF B s (ltP B L s) = x at *
      rcases (show x = 1 ∨ x = 2 ∨ x = 3 ∨ x = 4 ∨ x = 5 by omega) with rfl | rfl | rfl | rfl | rfl <;> rfl
    rw [sel]
    generalize hr : (numsF B L (nmF (wdF B s (ltP B L s))) 0 (ltP B L s) fun _ => 0) = r
    have hb := nums_bd (B := B) h120 (nmF (wdF B s (ltP B L s))) 0 (ltP B L s) (fun _ => 0) l2
    have h3 := nmF_3 (wdF B s (ltP B L s))
    obtain ⟨d1, d0⟩ := k_nums (n := n) hn hL h120 hB h3 (nmF (wdF B s (ltP B L s))) 0 (ltP B L s) n v1 N (fun _ => 0) h1 l2 (by omega) (by omega) fun i hi => absurd hi (Nat.not_lt_zero _)
    rw [hr] at hb d1 d0
    have b1 : r.2.1 ≤ L := by
      rcases hb with ⟨b1, -⟩ | ⟨-, b1⟩ <;> exact b1
    by_cases g1 : r.1 = true
    · obtain ⟨v2, N2, e2, h2, n2⟩ := d1 g1
      obtain ⟨-, v3, e3, h3⟩ := k_p102 hn h2 hL h120 hB b1
      rw [if_pos g1, e2, e3]
      by_cases g2 : nxB smi B L (spP B L r.2.1) = true
      · rw [if_pos g2] at h3
        rw [if_pos g2, if_pos g2]
        exact ⟨fun _ => ⟨v3, N2, rfl, h3, n2⟩, fun q => tf q⟩
      · rw [if_neg g2] at h3
        rw [if_neg g2, if_neg g2]
        exact ⟨fun q => ft q, fun _ => ⟨v3, _, _, rfl, h3⟩⟩
    · obtain ⟨v2, N2, e2, h2⟩ := d0 (Bool.eq_false_iff.mpr g1)
      obtain ⟨⟨v3, e3, h3⟩, -⟩ := k_p102 hn h2 hL h120 hB b1
      rw [if_neg g1, e2, e3]
      exact ⟨fun q => ft q, fun _ => ⟨v3, _, _, rfl, h3⟩⟩
end RC
