/-! NUMBERS, LOOPS, READS: the mathematics' own tools -/
def itr {σ : Type} (g : Nat → σ → σ) : Nat → Nat → σ → σ
  | 0, _, s => s
  | d + 1, a, s => itr g d (a + 1) (g a s)
theorem loop_up {σ R : Type} (L : Nat → Nat → σ → R) (fin : σ → R) (g : Nat → σ → σ) (I : Nat → σ → Prop) (b : Nat)
    (hs : ∀ t k s, k < b → I k s → L (t + 1) k s = L t (k + 1) (g k s)) (hi : ∀ k s, k < b → I k s → I (k + 1) (g k s)) (he : ∀ t s, I b s → L (t + 1) b s = fin s) :
    ∀ (d a t : Nat) (s : σ), a + d = b → d < t → I a s → L t a s = fin (itr g d a s) ∧ I b (itr g d a s) := by
  intro d
  induction d with
  | zero =>
    intro a t s h1 h2 h3
    obtain ⟨t, rfl⟩ : ∃ u, t = u + 1 := ⟨t - 1, by omega⟩
    have : a = b := by omega
    subst this
    exact ⟨he t s h3, h3⟩
  | succ d ih =>
    intro a t s h1 h2 h3
    obtain ⟨t, rfl⟩ : ∃ u, t = u + 1 := ⟨t - 1, by omega⟩
    rw [hs t a s (by omega) h3]
    exact ih (a + 1) t (g a s) (by omega) (by omega) (hi a s (by omega) h3)
theorem agI_at {kd : Nat} {w : Wd} {a n k : Nat} {f : Nat → Int32} (h : w a = some (.inl (kd, n, .inl f))) (hk : k < n) (hn : n < 2 ^ 31) : agI kd w a (nI k) = some (f k) := by
  have h1 : ¬ (nI k < 0 ∨ n ≤ (nI k).toNatClampNeg) := nI_in hk hn
  unfold agI
  rw [h]
  simp only [if_true, if_neg h1]
  rw [nI_clamp (Nat.lt_trans hk hn)]
theorem asI_at {kd : Nat} {w : Wd} {a n k : Nat} {f : Nat → Int32} {x : Int32} (h : w a = some (.inl (kd, n, .inl f))) (hk : k < n) (hn : n < 2 ^ 31) : asI kd w a (nI k) x = some (wup w a (.inl (kd, n, .inl (upd f k x)))) := by
  have h1 : ¬ (nI k < 0 ∨ n ≤ (nI k).toNatClampNeg) := nI_in hk hn
  unfold asI
  rw [h]
  simp only [if_true, if_neg h1]
  rw [nI_clamp (Nat.lt_trans hk hn)]
theorem agQ_at {kd : Nat} {w : Wd} {a n k : Nat} {f : Nat → Option Nat} (h : w a = some (.inl (kd, n, .inr (.inr (.inr (.inr f)))))) (hk : k < n) (hn : n < 2 ^ 31) : agQ kd w a (nI k) = f k := by
  have h1 : ¬ (nI k < 0 ∨ n ≤ (nI k).toNatClampNeg) := nI_in hk hn
  unfold agQ
  rw [h]
  simp only [if_true, if_neg h1]
  rw [nI_clamp (Nat.lt_trans hk hn)]
theorem gfI_at {ci k : Nat} {w : Wd} {a : Nat} {fs : List Value} {x : Int32} (h : w a = some (.inr (ci, fs))) (hv : fs[k]? = some (.int x)) : gfI ci k w a = some x := by
  simp [gfI, gfV, h, hv]
theorem gfR_at {ci k : Nat} {w : Wd} {a : Nat} {fs : List Value} {x : Nat} (h : w a = some (.inr (ci, fs))) (hv : fs[k]? = some (.ref x)) : gfR ci k w a = some x := by
  simp [gfR, gfV, h, hv]
theorem gfJ_at {ci k : Nat} {w : Wd} {a : Nat} {fs : List Value} {x : Int64} (h : w a = some (.inr (ci, fs))) (hv : fs[k]? = some (.long x)) : gfJ ci k w a = some x := by
  simp [gfJ, gfV, h, hv]
theorem pfV_at {ci k : Nat} {w : Wd} {a : Nat} {fs : List Value} {v : Value} (h : w a = some (.inr (ci, fs))) (hk : k < fs.length) : pfV ci k w a v = some (wup w a (.inr (ci, fs.set k v))) := by
  simp [pfV, h, hk]
theorem chk_at {ci : Nat} {w : Wd} {a : Nat} {fs : List Value} (h : w a = some (.inr (ci, fs))) : chk ci w a = some () := by
  simp [chk, h]
theorem sh2 : ∀ e, e ≤ 6 → (((2 * nI e) &&& 31 : Int32).toBitVec.smod 32).toNat = 2 * e := by
  intro e he
  rcases (show e = 0 ∨ e = 1 ∨ e = 2 ∨ e = 3 ∨ e = 4 ∨ e = 5 ∨ e = 6 by omega) with rfl | rfl | rfl | rfl | rfl | rfl | rfl <;> decide +kernel
theorem sh2m : ∀ e, 1 ≤ e → e ≤ 6 → (((2 * nI e - 2) &&& 31 : Int32).toBitVec.smod 32).toNat = 2 * (e - 1) := by
  intro e h0 he
  rcases (show e = 1 ∨ e = 2 ∨ e = 3 ∨ e = 4 ∨ e = 5 ∨ e = 6 by omega) with rfl | rfl | rfl | rfl | rfl | rfl <;> decide +kernel
theorem p4 (e : Nat) : 2 ^ (2 * e) = 4 ^ e := by rw [Nat.pow_mul]
theorem shr2 {c e : Nat} (hc : c < 2 ^ 31) (he : e ≤ 6) : nI c >>> ((2 * nI e) &&& 31 : Int32) = nI (c / 4 ^ e) := by
  rw [pk_shrN hc _ _ (sh2 e he), p4]
theorem shr2m {c e : Nat} (hc : c < 2 ^ 31) (h0 : 1 ≤ e) (he : e ≤ 6) : nI c >>> ((2 * nI e - 2) &&& 31 : Int32) = nI (c / 4 ^ (e - 1)) := by
  rw [pk_shrN hc _ _ (sh2m e h0 he), p4]
theorem shl2 {c e : Nat} (he : e ≤ 6) (h : c * 4 ^ e < 2 ^ 32) : nI c <<< ((2 * nI e) &&& 31 : Int32) = nI (c * 4 ^ e) := by
  rw [pk_shlN _ _ (sh2 e he) (by rw [p4]; exact h), p4]
theorem jrm_nI {a d : Nat} (ha : a < 2 ^ 31) (h0 : 0 < d) (hd : d < 2 ^ 31) : jrm (nI a) (nI d) = nI (a % d) := pk_rem ha h0 hd
theorem sq_corner {q : Nat} (hq : q < 2 ^ 31) : m_X3_corner (nI q) = nI (q / 8) := pk_div hq (by decide) (by decide)
def sqE (q : Nat) : Nat := 6 - q % 8
theorem sq_exp {q : Nat} (hq : q < 2 ^ 31) (h6 : q % 8 ≤ 6) : m_X3_exponent (nI q) = nI (sqE q) := by
  unfold m_X3_exponent sqE
  rw [show (8 : Int32) = nI 8 from rfl, jrm_nI hq (by decide) (by decide), show (6 : Int32) = nI 6 from rfl, pk_sub h6]
theorem k_firstOf (x : Int32) : m_X7_firstOf x = m_X3_corner x := rfl
theorem k_span (x : Int32) : m_X7_span x = m_X3_exponent x := rfl
/-- the exponent of a square's number, and whether it holds a code -/
def sqH (q c : Nat) : Prop := c / 4 ^ sqE q = q / 8 / 4 ^ sqE q
theorem sqE_le (q : Nat) : sqE q ≤ 6 := Nat.sub_le _ _
theorem lt31 {c : Nat} (h : c < 4096) : c < 2 ^ 31 := Nat.lt_trans h (by decide)
theorem div_lt31 {c d : Nat} (h : c < 2 ^ 31) : c / d < 2 ^ 31 := Nat.lt_of_le_of_lt (Nat.div_le_self _ _) h
theorem m_holds7 {q c : Nat} (hq : q < 2 ^ 31) (h6 : q % 8 ≤ 6) (hc : c < 2 ^ 31) [Decidable (sqH q c)] : m_X7_holds (nI q) (nI c) = if sqH q c then 1 else 0 := by
  unfold m_X7_holds
  rw [k_firstOf, k_span, sq_corner hq, sq_exp hq h6, shr2 (div_lt31 hq) (sqE_le q), shr2 hc (sqE_le q)]
  have := nI_eq (a := q / 8 / 4 ^ sqE q) (b := c / 4 ^ sqE q) (div_lt31 (div_lt31 hq)) (div_lt31 hc)
  by_cases h : sqH q c
  · rw [if_pos h, if_pos (this.mpr h.symm)]
  · rw [if_neg h, if_neg (fun z => h (this.mp z).symm)]
