section
/-! NUMBERS, LOOPS, READS: the mathematics' own tools -/
def itr {σ : Type} (g : Nat → σ → σ) : Nat → Nat → σ → σ
  | 0, _, s => s
  | d + 1, a, s => itr g d (a + 1) (g a s)
theorem loop_up {σ R : Type} (L : Nat → Nat → σ → R) (fin : σ → R) (g : Nat → σ → σ) (I : Nat → σ → Prop) (b : Nat)
    (hs : ∀ t k s, k < b → I k s → L (t + 1) k s = L t (k + 1) (g k s)) (hi : ∀ k s, k < b → I k s → I (k + 1) (g k s)) (he : ∀ t s, I b s → L (t + 1) b s = fin s) :
    ∀ (d a t : Nat) (s : σ), a + d = b → d < t → I a s → L t a s = fin (itr g d a s) ∧ I b (itr g d a s) := by
  intro d
  induction d with
  | zero =>
    intro a t s h1 h2 h3
    obtain ⟨t, rfl⟩ : ∃ u, t = u + 1 := ⟨t - 1, by omega⟩
    have : a = b := by omega
    subst this
    exact ⟨he t s h3, h3⟩
  | succ d ih =>
    intro a t s h1 h2 h3
    obtain ⟨t, rfl⟩ : ∃ u, t = u + 1 := ⟨t - 1, by omega⟩
    rw [hs t a s (by omega) h3]
    exact ih (a + 1) t (g a s) (by omega) (by omega) (hi a s (by omega) h3)
theorem agI_at {kd : Nat} {w : Wd} {a n k : Nat} {f : Nat → Int32} (h : w a = some (.inl (kd, n, .inl f))) (hk : k < n) (hn : n < 2 ^ 31) : agI kd w a (nI k) = some (f k) := by
  have h1 : ¬ (nI k < 0 ∨ n ≤ (nI k).toNatClampNeg) := nI_in hk hn
  unfold agI
  rw [h]
  simp only [if_true, if_neg h1]
  rw [nI_clamp (Nat.lt_trans hk hn)]
theorem asI_at {kd : Nat} {w : Wd} {a n k : Nat} {f : Nat → Int32} {x : Int32} (h : w a = some (.inl (kd, n, .inl f))) (hk : k < n) (hn : n < 2 ^ 31) : asI kd w a (nI k) x = some (wup w a (.inl (kd, n, .inl (upd f k x)))) := by
  have h1 : ¬ (nI k < 0 ∨ n ≤ (nI k).toNatClampNeg) := nI_in hk hn
  unfold asI
  rw [h]
  simp only [if_true, if_neg h1]
  rw [nI_clamp (Nat.lt_trans hk hn)]
theorem agQ_at {kd : Nat} {w : Wd} {a n k : Nat} {f : Nat → Option Nat} (h : w a = some (.inl (kd, n, .inr (.inr (.inr (.inr f)))))) (hk : k < n) (hn : n < 2 ^ 31) : agQ kd w a (nI k) = f k := by
  have h1 : ¬ (nI k < 0 ∨ n ≤ (nI k).toNatClampNeg) := nI_in hk hn
  unfold agQ
  rw [h]
  simp only [if_true, if_neg h1]
  rw [nI_clamp (Nat.lt_trans hk hn)]
theorem gfI_at {ci k : Nat} {w : Wd} {a : Nat} {fs : List Value} {x : Int32} (h : w a = some (.inr (ci, fs))) (hv : fs[k]? = some (.int x)) : gfI ci k w a = some x := by
  simp [gfI, gfV, h, hv]
theorem gfR_at {ci k : Nat} {w : Wd} {a : Nat} {fs : List Value} {x : Nat} (h : w a = some (.inr (ci, fs))) (hv : fs[k]? = some (.ref x)) : gfR ci k w a = some x := by
  simp [gfR, gfV, h, hv]
theorem gfJ_at {ci k : Nat} {w : Wd} {a : Nat} {fs : List Value} {x : Int64} (h : w a = some (.inr (ci, fs))) (hv : fs[k]? = some (.long x)) : gfJ ci k w a = some x := by
  simp [gfJ, gfV, h, hv]
theorem pfV_at {ci k : Nat} {w : Wd} {a : Nat} {fs : List Value} {v : Value} (h : w a = some (.inr (ci, fs))) (hk : k < fs.length) : pfV ci k w a v = some (wup w a (.inr (ci, fs.set k v))) := by
  simp [pfV, h, hk]
theorem chk_at {ci : Nat} {w : Wd} {a : Nat} {fs : List Value} (h : w a = some (.inr (ci, fs))) : chk ci w a = some () := by
  simp [chk, h]
theorem sh2 : ∀ e, e ≤ 6 → (((2 * nI e) &&& 31 : Int32).toBitVec.smod 32).toNat = 2 * e := by
  intro e he
  rcases (show e = 0 ∨ e = 1 ∨ e = 2 ∨ e = 3 ∨ e = 4 ∨ e = 5 ∨ e = 6 by omega) with rfl | rfl | rfl | rfl | rfl | rfl | rfl <;> decide +kernel
theorem sh2m : ∀ e, 1 ≤ e → e ≤ 6 → (((2 * nI e - 2) &&& 31 : Int32).toBitVec.smod 32).toNat = 2 * (e - 1) := by
  intro e h0 he
  rcases (show e = 1 ∨ e = 2 ∨ e = 3 ∨ e = 4 ∨ e = 5 ∨ e = 6 by omega) with rfl | rfl | rfl | rfl | rfl | rfl <;> decide +kernel
theorem p4 (e : Nat) : 2 ^ (2 * e) = 4 ^ e := by rw [Nat.pow_mul]
theorem shr2 {c e : Nat} (hc : c < 2 ^ 31) (he : e ≤ 6) : nI c >>> ((2 * nI e) &&& 31 : Int32) = nI (c / 4 ^ e) := by
  rw [pk_shrN hc _ _ (sh2 e he), p4]
theorem shr2m {c e : Nat} (hc : c < 2 ^ 31) (h0 : 1 ≤ e) (he : e ≤ 6) : nI c >>> ((2 * nI e - 2) &&& 31 : Int32) = nI (c / 4 ^ (e - 1)) := by
  rw [pk_shrN hc _ _ (sh2m e h0 he), p4]
theorem shl2 {c e : Nat} (he : e ≤ 6) (h : c * 4 ^ e < 2 ^ 32) : nI c <<< ((2 * nI e) &&& 31 : Int32) = nI (c * 4 ^ e) := by
  rw [pk_shlN _ _ (sh2 e he) (by rw [p4]; exact h), p4]
theorem jrm_nI {a d : Nat} (ha : a < 2 ^ 31) (h0 : 0 < d) (hd : d < 2 ^ 31) : jrm (nI a) (nI d) = nI (a % d) := pk_rem ha h0 hd
theorem sq_corner {q : Nat} (hq : q < 2 ^ 31) : m_X3_corner (nI q) = nI (q / 8) := pk_div hq (by decide) (by decide)
def sqE (q : Nat) : Nat := 6 - q % 8
theorem sq_exp {q : Nat} (hq : q < 2 ^ 31) (h6 : q % 8 ≤ 6) : m_X3_exponent (nI q) = nI (sqE q) := by
  unfold m_X3_exponent sqE
  rw [show (8 : Int32) = nI 8 from rfl, jrm_nI hq (by decide) (by decide), show (6 : Int32) = nI 6 from rfl, pk_sub h6]
/-- the exponent of a square's number, and whether it holds a code -/
def sqH (q c : Nat) : Prop := c / 4 ^ sqE q = q / 8 / 4 ^ sqE q
theorem sqE_le (q : Nat) : sqE q ≤ 6 := Nat.sub_le _ _
theorem lt31 {c : Nat} (h : c < 4096) : c < 2 ^ 31 := Nat.lt_trans h (by decide)
theorem div_lt31 {c d : Nat} (h : c < 2 ^ 31) : c / d < 2 ^ 31 := Nat.lt_of_le_of_lt (Nat.div_le_self _ _) h
end
section
/-! STATES: nine cells in a row, and what the class's own methods do to them -/
theorem lp {σ R : Type} (L : Nat → Nat → σ → Option R) (I : Nat → σ → Prop) (P : R → Prop) (b : Nat)
    (hs : ∀ t k s, k < b → I k s → (∃ s', L (t + 1) k s = L t (k + 1) s' ∧ I (k + 1) s') ∨ ∃ r, L (t + 1) k s = some r ∧ P r)
    (he : ∀ t s, I b s → ∃ r, L (t + 1) b s = some r ∧ P r) : ∀ (d k t : Nat) (s : σ), k + d = b → d < t → I k s → ∃ r, L t k s = some r ∧ P r := by
  intro d
  induction d with
  | zero =>
    intro k t s h1 h2 h3
    obtain ⟨t, rfl⟩ : ∃ u, t = u + 1 := ⟨t - 1, by omega⟩
    have : k = b := by omega
    subst this
    exact he t s h3
  | succ d ih =>
    intro k t s h1 h2 h3
    obtain ⟨t, rfl⟩ : ∃ u, t = u + 1 := ⟨t - 1, by omega⟩
    rcases hs t k s (by omega) h3 with ⟨s', e, h⟩ | h
    · rw [e]
      exact ih (k + 1) t s' (by omega) (by omega) h
    · exact h
/-- eight rows of a state, as one function: here x y u v centerX centerY lastPair -/
abbrev Rw : Type := Nat → Nat → Int32
def StC (w : Wd) (a : Nat) (t : Int32) (F : Rw) : Prop :=
  w a = some (.inr (3, [.ref (a + 1), .ref (a + 2), .ref (a + 3), .ref (a + 4), .ref (a + 5), .ref (a + 6), .ref (a + 7), .ref (a + 8), .int t])) ∧
  w (a + 1) = some (.inl (1, 24, .inl (F 0))) ∧ w (a + 2) = some (.inl (0, 24, .inl (F 1))) ∧ w (a + 3) = some (.inl (0, 24, .inl (F 2))) ∧ w (a + 4) = some (.inl (0, 24, .inl (F 3))) ∧ w (a + 5) = some (.inl (0, 24, .inl (F 4))) ∧
  w (a + 6) = some (.inl (0, 4, .inl (F 5))) ∧ w (a + 7) = some (.inl (0, 4, .inl (F 6))) ∧ w (a + 8) = some (.inl (0, 4, .inl (F 7)))
def setF (F : Rw) (j k : Nat) (x : Int32) : Rw := fun i => if i = j then upd (F j) k x else F i
theorem setF_at {F : Rw} {j k i m : Nat} {x : Int32} : setF F j k x i m = if i = j ∧ m = k then x else F i m := by
  unfold setF
  by_cases h : i = j
  · subst h
    by_cases g : m = k <;> simp [upd, g]
  · simp [h]
theorem StC.frame {w w' : Wd} {a : Nat} {t : Int32} {F : Rw} (h : StC w a t F) (hq : ∀ q, a ≤ q → q ≤ a + 8 → w' q = w q) : StC w' a t F := by
  obtain ⟨h0, h1, h2, h3, h4, h5, h6, h7, h8⟩ := h
  refine ⟨?_, ?_, ?_, ?_, ?_, ?_, ?_, ?_, ?_⟩ <;> first | (rw [hq _ (by omega) (by omega)]; assumption)
section ST
variable {w : Wd} {a b k : Nat} {t tb x : Int32} {F Fb : Rw}
theorem StC.s0 (h : StC w a t F) : StC (wup w (a + 1) (.inl (1, 24, .inl (upd (F 0) k x)))) a t (setF F 0 k x) := by
  obtain ⟨h0, h1, h2, h3, h4, h5, h6, h7, h8⟩ := h
  refine ⟨?_, wup_self, ?_, ?_, ?_, ?_, ?_, ?_, ?_⟩ <;> (rw [wup_ne (by omega)]; assumption)
theorem StC.s1 (h : StC w a t F) : StC (wup w (a + 2) (.inl (0, 24, .inl (upd (F 1) k x)))) a t (setF F 1 k x) := by
  obtain ⟨h0, h1, h2, h3, h4, h5, h6, h7, h8⟩ := h
  refine ⟨?_, ?_, wup_self, ?_, ?_, ?_, ?_, ?_, ?_⟩ <;> (rw [wup_ne (by omega)]; assumption)
theorem StC.s2 (h : StC w a t F) : StC (wup w (a + 3) (.inl (0, 24, .inl (upd (F 2) k x)))) a t (setF F 2 k x) := by
  obtain ⟨h0, h1, h2, h3, h4, h5, h6, h7, h8⟩ := h
  refine ⟨?_, ?_, ?_, wup_self, ?_, ?_, ?_, ?_, ?_⟩ <;> (rw [wup_ne (by omega)]; assumption)
theorem StC.s3 (h : StC w a t F) : StC (wup w (a + 4) (.inl (0, 24, .inl (upd (F 3) k x)))) a t (setF F 3 k x) := by
  obtain ⟨h0, h1, h2, h3, h4, h5, h6, h7, h8⟩ := h
  refine ⟨?_, ?_, ?_, ?_, wup_self, ?_, ?_, ?_, ?_⟩ <;> (rw [wup_ne (by omega)]; assumption)
theorem StC.s4 (h : StC w a t F) : StC (wup w (a + 5) (.inl (0, 24, .inl (upd (F 4) k x)))) a t (setF F 4 k x) := by
  obtain ⟨h0, h1, h2, h3, h4, h5, h6, h7, h8⟩ := h
  refine ⟨?_, ?_, ?_, ?_, ?_, wup_self, ?_, ?_, ?_⟩ <;> (rw [wup_ne (by omega)]; assumption)
theorem StC.s5 (h : StC w a t F) : StC (wup w (a + 6) (.inl (0, 4, .inl (upd (F 5) k x)))) a t (setF F 5 k x) := by
  obtain ⟨h0, h1, h2, h3, h4, h5, h6, h7, h8⟩ := h
  refine ⟨?_, ?_, ?_, ?_, ?_, ?_, wup_self, ?_, ?_⟩ <;> (rw [wup_ne (by omega)]; assumption)
theorem StC.s6 (h : StC w a t F) : StC (wup w (a + 7) (.inl (0, 4, .inl (upd (F 6) k x)))) a t (setF F 6 k x) := by
  obtain ⟨h0, h1, h2, h3, h4, h5, h6, h7, h8⟩ := h
  refine ⟨?_, ?_, ?_, ?_, ?_, ?_, ?_, wup_self, ?_⟩ <;> (rw [wup_ne (by omega)]; assumption)
theorem StC.s7 (h : StC w a t F) : StC (wup w (a + 8) (.inl (0, 4, .inl (upd (F 7) k x)))) a t (setF F 7 k x) := by
  obtain ⟨h0, h1, h2, h3, h4, h5, h6, h7, h8⟩ := h
  refine ⟨?_, ?_, ?_, ?_, ?_, ?_, ?_, ?_, wup_self⟩ <;> (rw [wup_ne (by omega)]; assumption)
theorem StC.st {t' : Int32} (h : StC w a t F) : StC (wup w a (.inr (3, [.ref (a + 1), .ref (a + 2), .ref (a + 3), .ref (a + 4), .ref (a + 5), .ref (a + 6), .ref (a + 7), .ref (a + 8), .int t']))) a t' F := by
  obtain ⟨h0, h1, h2, h3, h4, h5, h6, h7, h8⟩ := h
  refine ⟨wup_self, ?_, ?_, ?_, ?_, ?_, ?_, ?_, ?_⟩ <;> (rw [wup_ne (by omega)]; assumption)
theorem vp_nar_bo {v : Int32} (h : v = 0 ∨ v = 1) : vp_nar .boolean v = v := by rcases h with rfl | rfl <;> rfl
/-- the chain of a state's writes -/
theorem ch0 {R : Type} {f : Wd → Option R} (h : StC w a t F) (hk : k < 24) : ((gfR 3 0 w a).bind fun q => (asI 1 w q (nI k) x).bind f) = f (wup w (a + 1) (.inl (1, 24, .inl (upd (F 0) k x)))) := by
  rw [gfR_at h.1 rfl, Option.bind_some, asI_at h.2.1 hk (by decide), Option.bind_some]
theorem ch1 {R : Type} {f : Wd → Option R} (h : StC w a t F) (hk : k < 24) : ((gfR 3 1 w a).bind fun q => (asI 0 w q (nI k) x).bind f) = f (wup w (a + 2) (.inl (0, 24, .inl (upd (F 1) k x)))) := by
  rw [gfR_at h.1 rfl, Option.bind_some, asI_at h.2.2.1 hk (by decide), Option.bind_some]
theorem ch2 {R : Type} {f : Wd → Option R} (h : StC w a t F) (hk : k < 24) : ((gfR 3 2 w a).bind fun q => (asI 0 w q (nI k) x).bind f) = f (wup w (a + 3) (.inl (0, 24, .inl (upd (F 2) k x)))) := by
  rw [gfR_at h.1 rfl, Option.bind_some, asI_at h.2.2.2.1 hk (by decide), Option.bind_some]
theorem ch3 {R : Type} {f : Wd → Option R} (h : StC w a t F) (hk : k < 24) : ((gfR 3 3 w a).bind fun q => (asI 0 w q (nI k) x).bind f) = f (wup w (a + 4) (.inl (0, 24, .inl (upd (F 3) k x)))) := by
  rw [gfR_at h.1 rfl, Option.bind_some, asI_at h.2.2.2.2.1 hk (by decide), Option.bind_some]
theorem ch4 {R : Type} {f : Wd → Option R} (h : StC w a t F) (hk : k < 24) : ((gfR 3 4 w a).bind fun q => (asI 0 w q (nI k) x).bind f) = f (wup w (a + 5) (.inl (0, 24, .inl (upd (F 4) k x)))) := by
  rw [gfR_at h.1 rfl, Option.bind_some, asI_at h.2.2.2.2.2.1 hk (by decide), Option.bind_some]
/-- reads -/
theorem rd0 {R : Type} {f : Int32 → Option R} (h : StC w a t F) (hk : k < 24) : ((gfR 3 0 w a).bind fun q => (agI 1 w q (nI k)).bind f) = f (F 0 k) := by
  rw [gfR_at h.1 rfl, Option.bind_some, agI_at h.2.1 hk (by decide), Option.bind_some]
theorem rd1 {R : Type} {f : Int32 → Option R} (h : StC w a t F) (hk : k < 24) : ((gfR 3 1 w a).bind fun q => (agI 0 w q (nI k)).bind f) = f (F 1 k) := by
  rw [gfR_at h.1 rfl, Option.bind_some, agI_at h.2.2.1 hk (by decide), Option.bind_some]
theorem rd2 {R : Type} {f : Int32 → Option R} (h : StC w a t F) (hk : k < 24) : ((gfR 3 2 w a).bind fun q => (agI 0 w q (nI k)).bind f) = f (F 2 k) := by
  rw [gfR_at h.1 rfl, Option.bind_some, agI_at h.2.2.2.1 hk (by decide), Option.bind_some]
theorem rd3 {R : Type} {f : Int32 → Option R} (h : StC w a t F) (hk : k < 24) : ((gfR 3 3 w a).bind fun q => (agI 0 w q (nI k)).bind f) = f (F 3 k) := by
  rw [gfR_at h.1 rfl, Option.bind_some, agI_at h.2.2.2.2.1 hk (by decide), Option.bind_some]
theorem rd4 {R : Type} {f : Int32 → Option R} (h : StC w a t F) (hk : k < 24) : ((gfR 3 4 w a).bind fun q => (agI 0 w q (nI k)).bind f) = f (F 4 k) := by
  rw [gfR_at h.1 rfl, Option.bind_some, agI_at h.2.2.2.2.2.1 hk (by decide), Option.bind_some]
theorem rd5 {R : Type} {f : Int32 → Option R} (h : StC w a t F) (hk : k < 4) : ((gfR 3 5 w a).bind fun q => (agI 0 w q (nI k)).bind f) = f (F 5 k) := by
  rw [gfR_at h.1 rfl, Option.bind_some, agI_at h.2.2.2.2.2.2.1 hk (by decide), Option.bind_some]
theorem rd6 {R : Type} {f : Int32 → Option R} (h : StC w a t F) (hk : k < 4) : ((gfR 3 6 w a).bind fun q => (agI 0 w q (nI k)).bind f) = f (F 6 k) := by
  rw [gfR_at h.1 rfl, Option.bind_some, agI_at h.2.2.2.2.2.2.2.1 hk (by decide), Option.bind_some]
theorem rd7 {R : Type} {f : Int32 → Option R} (h : StC w a t F) (hk : k < 4) : ((gfR 3 7 w a).bind fun q => (agI 0 w q (nI k)).bind f) = f (F 7 k) := by
  rw [gfR_at h.1 rfl, Option.bind_some, agI_at h.2.2.2.2.2.2.2.2 hk (by decide), Option.bind_some]
theorem ch5 {R : Type} {f : Wd → Option R} (h : StC w a t F) (hk : k < 4) : ((gfR 3 5 w a).bind fun q => (asI 0 w q (nI k) x).bind f) = f (wup w (a + 6) (.inl (0, 4, .inl (upd (F 5) k x)))) := by
  rw [gfR_at h.1 rfl, Option.bind_some, asI_at h.2.2.2.2.2.2.1 hk (by decide), Option.bind_some]
theorem ch6 {R : Type} {f : Wd → Option R} (h : StC w a t F) (hk : k < 4) : ((gfR 3 6 w a).bind fun q => (asI 0 w q (nI k) x).bind f) = f (wup w (a + 7) (.inl (0, 4, .inl (upd (F 6) k x)))) := by
  rw [gfR_at h.1 rfl, Option.bind_some, asI_at h.2.2.2.2.2.2.2.1 hk (by decide), Option.bind_some]
theorem ch7 {R : Type} {f : Wd → Option R} (h : StC w a t F) (hk : k < 4) : ((gfR 3 7 w a).bind fun q => (asI 0 w q (nI k) x).bind f) = f (wup w (a + 8) (.inl (0, 4, .inl (upd (F 7) k x)))) := by
  rw [gfR_at h.1 rfl, Option.bind_some, asI_at h.2.2.2.2.2.2.2.2 hk (by decide), Option.bind_some]
/-- one cell of a row from the other state -/
theorem cp0 {R : Type} {f : Wd → Option R} (h : StC w a t F) (g : StC w b tb Fb) (hk : k < 24) (hb : Fb 0 k = 0 ∨ Fb 0 k = 1) : ((gfR 3 0 w a).bind fun q => (gfR 3 0 w b).bind fun q2 => (agI 1 w q2 (nI k)).bind fun x => (asI 1 w q (nI k) (vp_nar .boolean x)).bind f) = f (wup w (a + 1) (.inl (1, 24, .inl (upd (F 0) k (Fb 0 k))))) := by
  rw [gfR_at h.1 rfl, Option.bind_some, gfR_at g.1 rfl, Option.bind_some, agI_at g.2.1 hk (by decide), Option.bind_some, vp_nar_bo hb, asI_at h.2.1 hk (by decide), Option.bind_some]
theorem cp1 {R : Type} {f : Wd → Option R} (h : StC w a t F) (g : StC w b tb Fb) (hk : k < 24) : ((gfR 3 1 w a).bind fun q => (gfR 3 1 w b).bind fun q2 => (agI 0 w q2 (nI k)).bind fun x => (asI 0 w q (nI k) x).bind f) = f (wup w (a + 2) (.inl (0, 24, .inl (upd (F 1) k (Fb 1 k))))) := by
  rw [gfR_at h.1 rfl, Option.bind_some, gfR_at g.1 rfl, Option.bind_some, agI_at g.2.2.1 hk (by decide), Option.bind_some, asI_at h.2.2.1 hk (by decide), Option.bind_some]
theorem cp2 {R : Type} {f : Wd → Option R} (h : StC w a t F) (g : StC w b tb Fb) (hk : k < 24) : ((gfR 3 2 w a).bind fun q => (gfR 3 2 w b).bind fun q2 => (agI 0 w q2 (nI k)).bind fun x => (asI 0 w q (nI k) x).bind f) = f (wup w (a + 3) (.inl (0, 24, .inl (upd (F 2) k (Fb 2 k))))) := by
  rw [gfR_at h.1 rfl, Option.bind_some, gfR_at g.1 rfl, Option.bind_some, agI_at g.2.2.2.1 hk (by decide), Option.bind_some, asI_at h.2.2.2.1 hk (by decide), Option.bind_some]
theorem cp3 {R : Type} {f : Wd → Option R} (h : StC w a t F) (g : StC w b tb Fb) (hk : k < 24) : ((gfR 3 3 w a).bind fun q => (gfR 3 3 w b).bind fun q2 => (agI 0 w q2 (nI k)).bind fun x => (asI 0 w q (nI k) x).bind f) = f (wup w (a + 4) (.inl (0, 24, .inl (upd (F 3) k (Fb 3 k))))) := by
  rw [gfR_at h.1 rfl, Option.bind_some, gfR_at g.1 rfl, Option.bind_some, agI_at g.2.2.2.2.1 hk (by decide), Option.bind_some, asI_at h.2.2.2.2.1 hk (by decide), Option.bind_some]
theorem cp4 {R : Type} {f : Wd → Option R} (h : StC w a t F) (g : StC w b tb Fb) (hk : k < 24) : ((gfR 3 4 w a).bind fun q => (gfR 3 4 w b).bind fun q2 => (agI 0 w q2 (nI k)).bind fun x => (asI 0 w q (nI k) x).bind f) = f (wup w (a + 5) (.inl (0, 24, .inl (upd (F 4) k (Fb 4 k))))) := by
  rw [gfR_at h.1 rfl, Option.bind_some, gfR_at g.1 rfl, Option.bind_some, agI_at g.2.2.2.2.2.1 hk (by decide), Option.bind_some, asI_at h.2.2.2.2.2.1 hk (by decide), Option.bind_some]
theorem cp5 {R : Type} {f : Wd → Option R} (h : StC w a t F) (g : StC w b tb Fb) (hk : k < 4) : ((gfR 3 5 w a).bind fun q => (gfR 3 5 w b).bind fun q2 => (agI 0 w q2 (nI k)).bind fun x => (asI 0 w q (nI k) x).bind f) = f (wup w (a + 6) (.inl (0, 4, .inl (upd (F 5) k (Fb 5 k))))) := by
  rw [gfR_at h.1 rfl, Option.bind_some, gfR_at g.1 rfl, Option.bind_some, agI_at g.2.2.2.2.2.2.1 hk (by decide), Option.bind_some, asI_at h.2.2.2.2.2.2.1 hk (by decide), Option.bind_some]
theorem cp6 {R : Type} {f : Wd → Option R} (h : StC w a t F) (g : StC w b tb Fb) (hk : k < 4) : ((gfR 3 6 w a).bind fun q => (gfR 3 6 w b).bind fun q2 => (agI 0 w q2 (nI k)).bind fun x => (asI 0 w q (nI k) x).bind f) = f (wup w (a + 7) (.inl (0, 4, .inl (upd (F 6) k (Fb 6 k))))) := by
  rw [gfR_at h.1 rfl, Option.bind_some, gfR_at g.1 rfl, Option.bind_some, agI_at g.2.2.2.2.2.2.2.1 hk (by decide), Option.bind_some, asI_at h.2.2.2.2.2.2.2.1 hk (by decide), Option.bind_some]
theorem cp7 {R : Type} {f : Wd → Option R} (h : StC w a t F) (g : StC w b tb Fb) (hk : k < 4) : ((gfR 3 7 w a).bind fun q => (gfR 3 7 w b).bind fun q2 => (agI 0 w q2 (nI k)).bind fun x => (asI 0 w q (nI k) x).bind f) = f (wup w (a + 8) (.inl (0, 4, .inl (upd (F 7) k (Fb 7 k))))) := by
  rw [gfR_at h.1 rfl, Option.bind_some, gfR_at g.1 rfl, Option.bind_some, agI_at g.2.2.2.2.2.2.2.2 hk (by decide), Option.bind_some, asI_at h.2.2.2.2.2.2.2.2 hk (by decide), Option.bind_some]
end ST
theorem nle24 {k b : Nat} (hk : k < b) (hb : b < 2 ^ 31) : ¬ nI b ≤ nI k := nI_ge hk hb
/-- a state becomes a copy of another -/
theorem m_copy {n : Nat} (hn : 30 ≤ n) {w : Wd} {a b : Nat} {ta tb : Int32} {Fa Fb : Rw} (ha : StC w a ta Fa) (hb : StC w b tb Fb) (hab : a + 8 < b ∨ b + 8 < a) (hbo : ∀ i, i < 24 → Fb 0 i = 0 ∨ Fb 0 i = 1) :
    ∃ w', m_X4_copy n w a b = some w' ∧ (∃ F, StC w' a tb F ∧ (∀ j i, j < 5 → i < 24 → F j i = Fb j i) ∧ ∀ j i, 5 ≤ j → j < 8 → i < 4 → F j i = Fb j i) ∧ ∀ q, (q < a ∨ a + 8 < q) → w' q = w q := by
  have hne : ∀ q i, b ≤ q → q ≤ b + 8 → i ≤ 8 → q ≠ a + i := fun q i h1 h2 h3 => by omega
  unfold m_X4_copy
  refine lp (σ := Wd) (fun t k w => m_X4_copy_p2 n t w a b (nI k)) (fun k v => (∃ F, StC v a ta F ∧ ∀ j i, j < 5 → i < k → F j i = Fb j i) ∧ ∀ q, (q < a ∨ a + 8 < q) → v q = w q) _ 24 ?_ ?_ 24 0 n w rfl (by omega) ⟨⟨Fa, ha, fun j i _ h => absurd h (Nat.not_lt_zero _)⟩, fun q _ => rfl⟩
  · rintro t k v hk ⟨⟨F, h0, hF⟩, hq⟩
    left
    have g0 : StC v b tb Fb := hb.frame fun q h1 h2 => hq q (by omega)
    have h1 := h0.s0 (k := k) (x := Fb 0 k)
    have g1 := g0.frame (w' := wup v (a + 1) (.inl (1, 24, .inl (upd (F 0) k (Fb 0 k))))) fun q a1 a2 => wup_ne (hne q 1 a1 a2 (by decide))
    have h2 := h1.s1 (k := k) (x := Fb 1 k)
    have g2 := g1.frame (w' := wup _ (a + 2) (.inl (0, 24, .inl (upd (setF F 0 k (Fb 0 k) 1) k (Fb 1 k))))) fun q a1 a2 => wup_ne (hne q 2 a1 a2 (by decide))
    have h3 := h2.s2 (k := k) (x := Fb 2 k)
    have g3 := g2.frame (w' := wup _ (a + 3) (.inl (0, 24, .inl (upd (setF (setF F 0 k (Fb 0 k)) 1 k (Fb 1 k) 2) k (Fb 2 k))))) fun q a1 a2 => wup_ne (hne q 3 a1 a2 (by decide))
    have h4 := h3.s3 (k := k) (x := Fb 3 k)
    have g4 := g3.frame (w' := wup _ (a + 4) (.inl (0, 24, .inl (upd (setF (setF (setF F 0 k (Fb 0 k)) 1 k (Fb 1 k)) 2 k (Fb 2 k) 3) k (Fb 3 k))))) fun q a1 a2 => wup_ne (hne q 4 a1 a2 (by decide))
    have h5 := h4.s4 (k := k) (x := Fb 4 k)
    refine ⟨_, ?_, ⟨_, h5, ?_⟩, ?_⟩
    · show m_X4_copy_p2 n (t + 1) v a b (nI k) = _
      rw [m_X4_copy_p2, if_neg (show ¬ (24 : Int32) ≤ nI k from nI_ge hk (by decide)), cp0 h0 g0 hk (hbo k hk), cp1 h1 g1 hk, cp2 h2 g2 hk, cp3 h3 g3 hk, cp4 h4 g4 hk, nI_1]
    · intro j i hj hi
      simp only [setF_at]
      by_cases e : i = k
      · subst e
        rcases i5 hj with rfl | rfl | rfl | rfl | rfl <;> simp
      · simp only [e, and_false, if_false]
        exact hF j i hj (by omega)
    · intro q h
      rw [wup_ne (by omega), wup_ne (by omega), wup_ne (by omega), wup_ne (by omega), wup_ne (by omega)]
      exact hq q h
  · rintro t v ⟨⟨F, h0, hF⟩, hq⟩
    show ∃ r, m_X4_copy_p2 n (t + 1) v a b (nI 24) = some r ∧ _
    rw [m_X4_copy_p2, if_pos (by decide), m_X4_copy_p74]
    refine lp (σ := Wd) (fun t k w => m_X4_copy_p76 n t w a b (nI k)) (fun k v => (∃ F, StC v a ta F ∧ (∀ j i, j < 5 → i < 24 → F j i = Fb j i) ∧ ∀ j i, 5 ≤ j → j < 8 → i < k → F j i = Fb j i) ∧ ∀ q, (q < a ∨ a + 8 < q) → v q = w q) _ 4 ?_ ?_ 4 0 n v rfl (by omega) ⟨⟨F, h0, hF, fun j i _ _ h => absurd h (Nat.not_lt_zero _)⟩, hq⟩
    · rintro t k v hk ⟨⟨F, h0, hF, hG⟩, hq⟩
      left
      have g0 : StC v b tb Fb := hb.frame fun q h1 h2 => hq q (by omega)
      have h1 := h0.s5 (k := k) (x := Fb 5 k)
      have g1 := g0.frame (w' := wup v (a + 6) (.inl (0, 4, .inl (upd (F 5) k (Fb 5 k))))) fun q a1 a2 => wup_ne (hne q 6 a1 a2 (by decide))
      have h2 := h1.s6 (k := k) (x := Fb 6 k)
      have g2 := g1.frame (w' := wup _ (a + 7) (.inl (0, 4, .inl (upd (setF F 5 k (Fb 5 k) 6) k (Fb 6 k))))) fun q a1 a2 => wup_ne (hne q 7 a1 a2 (by decide))
      have h3 := h2.s7 (k := k) (x := Fb 7 k)
      refine ⟨_, ?_, ⟨_, h3, ?_, ?_⟩, ?_⟩
      · show m_X4_copy_p76 n (t + 1) v a b (nI k) = _
        rw [m_X4_copy_p76, if_neg (show ¬ (4 : Int32) ≤ nI k from nI_ge hk (by decide)), cp5 h0 g0 hk, cp6 h1 g1 hk, cp7 h2 g2 hk, nI_1]
      · intro j i hj hi
        simp only [setF_at]
        rw [if_neg (by omega), if_neg (by omega), if_neg (by omega)]
        exact hF j i hj hi
      · intro j i hj hj2 hi
        simp only [setF_at]
        by_cases e : i = k
        · subst e
          rcases (show j = 5 ∨ j = 6 ∨ j = 7 by omega) with rfl | rfl | rfl <;> simp
        · simp only [e, and_false, if_false]
          exact hG j i hj hj2 (by omega)
      · intro q h
        rw [wup_ne (by omega), wup_ne (by omega), wup_ne (by omega)]
        exact hq q h
    · rintro t v ⟨⟨F, h0, hF, hG⟩, hq⟩
      have g0 : StC v b tb Fb := hb.frame fun q h1 h2 => hq q (by omega)
      refine ⟨_, ?_, ⟨F, h0.st, hF, hG⟩, ?_⟩
      · show m_X4_copy_p76 n (t + 1) v a b (nI 4) = _
        rw [m_X4_copy_p76, if_pos (by decide), m_X4_copy_p123, gfI_at g0.1 rfl, Option.bind_some, pfV_at h0.1 (Nat.le_of_ble_eq_true rfl), Option.bind_some]
        rfl
      · intro q h
        rw [wup_ne (by omega)]
        exact hq q h
end
section
/-! THE REFERENCE'S CELLS: ten in a row, by its int fields I, its long fields J and its rows A -/
def setI (I : Nat → Int32) (k : Nat) (x : Int32) : Nat → Int32 := fun i => if i = k then x else I i
def setJ (I : Nat → Int64) (k : Nat) (x : Int64) : Nat → Int64 := fun i => if i = k then x else I i
theorem setI_at {I : Nat → Int32} {k i : Nat} {x : Int32} : setI I k x i = if i = k then x else I i := rfl
theorem setI_self {I : Nat → Int32} {k : Nat} {x : Int32} : setI I k x k = x := if_pos rfl
theorem setI_ne {I : Nat → Int32} {k i : Nat} {x : Int32} (h : i ≠ k) : setI I k x i = I i := if_neg h
theorem setJ_self {I : Nat → Int64} {k : Nat} {x : Int64} : setJ I k x k = x := if_pos rfl
theorem setJ_ne {I : Nat → Int64} {k i : Nat} {x : Int64} (h : i ≠ k) : setJ I k x i = I i := if_neg h
theorem setF_self {F : Rw} {j k : Nat} {x : Int32} : setF F j k x j k = x := by rw [setF_at, if_pos ⟨rfl, rfl⟩]
theorem setF_row {F : Rw} {j k i m : Nat} {x : Int32} (h : i ≠ j) : setF F j k x i m = F i m := by rw [setF_at, if_neg (fun q => h q.1)]
theorem setF_col {F : Rw} {j k i m : Nat} {x : Int32} (h : m ≠ k) : setF F j k x i m = F i m := by rw [setF_at, if_neg (fun q => h q.2)]
section MO
variable {w : Wd} {b k : Nat} {I : Nat → Int32} {J : Nat → Int64} {A : Rw}
theorem MoC.fr {w' : Wd} {a : Nat} {t : Int32} {F : Rw} (g : StC w a t F) (hq : ∀ q, (q < b ∨ b + 9 < q) → w' q = w q) (h : a + 8 < b ∨ b + 9 < a) : StC w' a t F := g.frame fun q h1 h2 => hq q (by omega)
end MO
end
section
/-! THE REFERENCE'S SAVES AND UNDO -/
theorem e141 (c k : Nat) : (141 : Int32) * nI c + nI k = nI (141 * c + k) := by
  rw [show (141 : Int32) = nI 141 from rfl, pk_mul, nI_add]
abbrev Fr (w w' : Wd) (b : Nat) : Prop := ∀ q, (q < b ∨ b + 9 < q) → w' q = w q
/-- the rows of the past, one more behind (the oldest falls out when there are four) -/
def pastS (c : Nat) (A A' : Rw) : Prop := ∀ j i, j < min (c + 1) 4 → i < 141 → A' 1 (141 * j + i) = if j + 1 = min (c + 1) 4 then A 0 i else A 1 (141 * (if c = 4 then j + 1 else j) + i)
end
section
/-! A ROW OF 141 NUMBERS AS THE STATE OF BOTH; the class's ring of states -/
def sp (v : Int32) : Prop := -9 ≤ v.toInt ∧ v.toInt ≤ 9
def lpOf (S : Nat → Int32) (c : Nat) : Int32 := if S (122 + 5 * c) = 0 then -1 else S (123 + 5 * c) * 32 + S (124 + 5 * c)
def N64 (v : Int32) : Prop := ∃ x, x < 64 ∧ v = nI x
def WFp (S : Nat → Int32) (i : Nat) : Prop := (S (5 * i) = 0 ∨ S (5 * i) = 1) ∧ N64 (S (5 * i + 1)) ∧ N64 (S (5 * i + 2)) ∧ sp (S (5 * i + 3)) ∧ sp (S (5 * i + 4)) ∧ (S (5 * i) = 0 → S (5 * i + 1) = 0 ∧ S (5 * i + 2) = 0 ∧ S (5 * i + 3) = 0 ∧ S (5 * i + 4) = 0)
def WFc (S : Nat → Int32) (c : Nat) : Prop := N64 (S (120 + 5 * c)) ∧ N64 (S (121 + 5 * c)) ∧ (S (122 + 5 * c) = 0 ∨ S (122 + 5 * c) = 1 ∧ (∃ d, d ≤ 7938 ∧ S (123 + 5 * c) = nI d) ∧ ∃ i, i < 24 ∧ S (124 + 5 * c) = nI i)
def WF (S : Nat → Int32) : Prop := (∀ i, i < 24 → WFp S i) ∧ ∀ c, c < 4 → WFc S c
def StR (S : Nat → Int32) (F : Rw) (t : Int32) : Prop := (∀ j i, j < 5 → i < 24 → F j i = S (5 * i + j)) ∧ (∀ c, c < 4 → F 5 c = S (120 + 5 * c) ∧ F 6 c = S (121 + 5 * c) ∧ F 7 c = lpOf S c) ∧ t = S 140
def StW (w : Wd) (a : Nat) (S : Nat → Int32) : Prop := ∃ F t, StC w a t F ∧ StR S F t
theorem StW.frame {w w' : Wd} {a : Nat} {S : Nat → Int32} (h : StW w a S) (hq : ∀ q, a ≤ q → q ≤ a + 8 → w' q = w q) : StW w' a S := by
  obtain ⟨F, t, h1, h2⟩ := h
  exact ⟨F, t, h1.frame hq, h2⟩
theorem StR.bo {S : Nat → Int32} {F : Rw} {t : Int32} (h : StR S F t) (hw : WF S) : ∀ i, i < 24 → F 0 i = 0 ∨ F 0 i = 1 := fun i hi => by
  rw [h.1 0 i (by decide) hi]
  exact (hw.1 i hi).1
theorem StR.copy {S : Nat → Int32} {F F' : Rw} {t : Int32} (h : StR S F t) (h1 : ∀ j i, j < 5 → i < 24 → F' j i = F j i) (h2 : ∀ j i, 5 ≤ j → j < 8 → i < 4 → F' j i = F j i) : StR S F' t :=
  ⟨fun j i hj hi => (h1 j i hj hi).trans (h.1 j i hj hi), fun c hc => by rw [h2 5 c (by decide) (by decide) hc, h2 6 c (by decide) (by decide) hc, h2 7 c (by decide) (by decide) hc]; exact h.2.1 c hc, h.2.2⟩
def RgC (w : Wd) (h t c : Nat) : Prop := w (h + 10) = some (.inr (4, [.ref (h + 11), .int (nI t), .int (nI c)])) ∧ ∃ f, w (h + 11) = some (.inl (4, 4, .inr (.inr (.inr (.inr f))))) ∧ ∀ k, k < 4 → f k = some (h + 12 + 9 * k)
def Rg (w : Wd) (h t c : Nat) (P : Nat → Nat → Int32) : Prop := t < 4 ∧ c ≤ 4 ∧ RgC w h t c ∧ (∀ k, k < 4 → ∃ F tt, StC w (h + 12 + 9 * k) tt F) ∧ ∀ j, j < c → WF (P j) ∧ StW w (h + 12 + 9 * ((t + 4 - c + j) % 4)) (P j)
theorem Rg.frame {w w' : Wd} {h t c : Nat} {P : Nat → Nat → Int32} (g : Rg w h t c P) (hq : ∀ q, h + 10 ≤ q → q ≤ h + 47 → w' q = w q) : Rg w' h t c P := by
  obtain ⟨h1, h2, ⟨h3, f, h4, h5⟩, h6, h7⟩ := g
  refine ⟨h1, h2, ⟨by rw [hq _ (by omega) (by omega)]; exact h3, f, by rw [hq _ (by omega) (by omega)]; exact h4, h5⟩, fun k hk => ?_, fun j hj => ⟨(h7 j hj).1, (h7 j hj).2.frame fun q a b => hq q (by omega) (by omega)⟩⟩
  obtain ⟨F, tt, g⟩ := h6 k hk
  exact ⟨F, tt, g.frame fun q a b => hq q (by omega) (by omega)⟩
def pshP (c : Nat) (S : Nat → Int32) (P : Nat → Nat → Int32) : Nat → Nat → Int32 := fun j => if j + 1 = min (c + 1) 4 then S else P (if c = 4 then j + 1 else j)
theorem mn4 {c : Nat} (hc : c ≤ 4) : mnI (nI c + 1) 4 = nI (min (c + 1) 4) := by
  rcases (show c = 0 ∨ c = 1 ∨ c = 2 ∨ c = 3 ∨ c = 4 by omega) with rfl | rfl | rfl | rfl | rfl <;> decide +kernel
theorem m_push {n : Nat} (hn : 30 ≤ n) {w : Wd} {h t c : Nat} {S : Nat → Int32} {P : Nat → Nat → Int32} (hs : StW w (h + 1) S) (hw : WF S) (g : Rg w h t c P) :
    ∃ w', m_X5_push n w (h + 10) (h + 1) = some w' ∧ Rg w' h ((t + 1) % 4) (min (c + 1) 4) (pshP c S P) ∧ ∀ q, (q < h + 10 ∨ h + 47 < q) → w' q = w q := by
  obtain ⟨F, tt, hF, hR⟩ := hs
  obtain ⟨h1, h2, ⟨h3, f, h4, h5⟩, h6, h7⟩ := g
  obtain ⟨F0, t0, hT⟩ := h6 t h1
  obtain ⟨w1, e1, ⟨F1, g1, k1, k2⟩, q1⟩ := m_copy hn hT hF (Or.inr (by omega)) (hR.bo hw)
  have a3 : w1 (h + 10) = some (.inr (4, [.ref (h + 11), .int (nI t), .int (nI c)])) := by rw [q1 _ (by omega)]; exact h3
  generalize hw2 : wup (wup w1 (h + 10) (.inr (4, [.ref (h + 11), .int (nI ((t + 1) % 4)), .int (nI c)]))) (h + 10) (.inr (4, [.ref (h + 11), .int (nI ((t + 1) % 4)), .int (nI (min (c + 1) 4))])) = w2
  have o2 : ∀ q, q ≠ h + 10 → w2 q = w1 q := fun q hq => by rw [← hw2, wup_ne hq, wup_ne hq]
  have a2 : w2 (h + 10) = some (.inr (4, [.ref (h + 11), .int (nI ((t + 1) % 4)), .int (nI (min (c + 1) 4))])) := by rw [← hw2, wup_self]
  have hm : min (c + 1) 4 ≤ 4 := Nat.min_le_right _ _
  refine ⟨w2, ?_, ⟨Nat.mod_lt _ (by decide), hm, ⟨a2, f, ?_, h5⟩, fun k hk => ?_, fun j hj => ?_⟩, fun q hq => ?_⟩
  · rw [m_X5_push, gfR_at h3 rfl, Option.bind_some, gfI_at h3 rfl, Option.bind_some, agQ_at h4 h1 (by decide), h5 t h1, Option.bind_some, chk_at hT.1, Option.bind_some, e1, Option.bind_some, gfI_at a3 rfl, Option.bind_some, nI_1, show (4 : Int32) = nI 4 from rfl, jrm_nI (by omega) (by decide) (by decide), pfV_at a3 (Nat.le_of_ble_eq_true rfl), Option.bind_some, gfI_at wup_self rfl, Option.bind_some, show mnI (nI c + 1) (nI 4) = nI (min (c + 1) 4) from mn4 h2, pfV_at wup_self (Nat.le_of_ble_eq_true rfl), Option.bind_some]
    exact congrArg some hw2
  · rw [o2 _ (by omega), q1 _ (by omega)]
    exact h4
  · by_cases e : k = t
    · subst e
      exact ⟨F1, tt, g1.frame fun q a b => o2 q (by omega)⟩
    · obtain ⟨F2, t2, g2⟩ := h6 k hk
      exact ⟨F2, t2, g2.frame fun q a b => by rw [o2 _ (by omega), q1 _ (by omega)]⟩
  · unfold pshP
    by_cases e : j + 1 = min (c + 1) 4
    · rw [if_pos e]
      refine ⟨hw, F1, tt, ?_, hR.copy k1 k2⟩
      rw [show ((t + 1) % 4 + 4 - min (c + 1) 4 + j) % 4 = t by omega]
      exact g1.frame fun q a b => o2 q (by omega)
    · rw [if_neg e]
      have hj' : (if c = 4 then j + 1 else j) < c := by split <;> omega
      obtain ⟨b1, b2⟩ := h7 _ hj'
      refine ⟨b1, ?_⟩
      rw [show ((t + 1) % 4 + 4 - min (c + 1) 4 + j) % 4 = (t + 4 - c + (if c = 4 then j + 1 else j)) % 4 by split <;> omega]
      have hne : (t + 4 - c + (if c = 4 then j + 1 else j)) % 4 ≠ t := by split <;> omega
      have hl4 : (t + 4 - c + (if c = 4 then j + 1 else j)) % 4 < 4 := Nat.mod_lt _ (by decide)
      exact b2.frame fun q a b => by rw [o2 _ (by omega), q1 _ (by omega)]
  · rw [o2 _ (by omega), q1 _ (by omega)]
theorem m_pop {n : Nat} (hn : 30 ≤ n) {w : Wd} {h t c : Nat} {S : Nat → Int32} {P : Nat → Nat → Int32} (hs : StW w (h + 1) S) (g : Rg w h t c P) (hc : 0 < c) :
    ∃ w', m_X5_pop n w (h + 10) (h + 1) = some w' ∧ StW w' (h + 1) (P (c - 1)) ∧ Rg w' h ((t + 3) % 4) (c - 1) P ∧ ∀ q, (q < h + 1 ∨ h + 9 < q) → q ≠ h + 10 → w' q = w q := by
  obtain ⟨F, tt, hF, hR⟩ := hs
  obtain ⟨h1, h2, ⟨h3, f, h4, h5⟩, h6, h7⟩ := g
  obtain ⟨hwP, F0, t0, hT, hRT⟩ := h7 (c - 1) (by omega)
  rw [show (t + 4 - c + (c - 1)) % 4 = (t + 3) % 4 by omega] at hT
  have ht : (t + 3) % 4 < 4 := Nat.mod_lt _ (by decide)
  generalize hw2 : wup (wup w (h + 10) (.inr (4, [.ref (h + 11), .int (nI ((t + 3) % 4)), .int (nI c)]))) (h + 10) (.inr (4, [.ref (h + 11), .int (nI ((t + 3) % 4)), .int (nI (c - 1))])) = w2
  have o2 : ∀ q, q ≠ h + 10 → w2 q = w q := fun q hq => by rw [← hw2, wup_ne hq, wup_ne hq]
  have a2 : w2 (h + 10) = some (.inr (4, [.ref (h + 11), .int (nI ((t + 3) % 4)), .int (nI (c - 1))])) := by rw [← hw2, wup_self]
  obtain ⟨w1, e1, ⟨F1, g1, k1, k2⟩, q1⟩ := m_copy hn (hF.frame (w' := w2) fun q a b => o2 q (by omega)) (hT.frame (w' := w2) fun q a b => o2 q (by omega)) (Or.inl (by omega)) (hRT.bo hwP)
  refine ⟨w1, ?_, ⟨F1, t0, g1, hRT.copy k1 k2⟩, ⟨ht, by omega, ⟨by rw [q1 _ (by omega)]; exact a2, f, by rw [q1 _ (by omega), o2 _ (by omega)]; exact h4, h5⟩, fun k hk => ?_, fun j hj => ?_⟩, fun q hq hq2 => by rw [q1 _ (by omega), o2 _ hq2]⟩
  · rw [m_X5_pop, gfI_at h3 rfl, Option.bind_some, show nI t + 4 - 1 = nI (t + 3) by rw [show (4 : Int32) = nI 4 from rfl, nI_add]; exact nI_pred (t + 3), show (4 : Int32) = nI 4 from rfl, jrm_nI (by omega) (by decide) (by decide), pfV_at h3 (Nat.le_of_ble_eq_true rfl), Option.bind_some, gfI_at wup_self rfl, Option.bind_some, pfV_at wup_self (Nat.le_of_ble_eq_true rfl), Option.bind_some, show nI c - 1 = nI (c - 1) from pk_sub (a := c) (b := 1) hc]
    simp only [List.set_cons_succ, List.set_cons_zero]
    rw [hw2, gfR_at a2 rfl, Option.bind_some, gfI_at a2 rfl, Option.bind_some, agQ_at (show w2 (h + 11) = _ by rw [o2 _ (by omega)]; exact h4) ht (by decide), h5 _ ht, Option.bind_some, chk_at (show w2 (h + 1) = _ by rw [o2 _ (by omega)]; exact hF.1), Option.bind_some, e1, Option.bind_some]
  · obtain ⟨F2, t2, g2⟩ := h6 k hk
    exact ⟨F2, t2, g2.frame fun q a b => by rw [q1 _ (by omega), o2 _ (by omega)]⟩
  · obtain ⟨b1, b2⟩ := h7 j (by omega)
    refine ⟨b1, ?_⟩
    rw [show ((t + 3) % 4 + 4 - (c - 1) + j) % 4 = (t + 4 - c + j) % 4 by omega]
    exact b2.frame fun q a b => by rw [q1 _ (by omega), o2 _ (by omega)]
end
section
/-! THE NODES OF A LEVEL, AS NUMBERS: no memory here -/
def sq (c e : Nat) : Nat := c / 4 ^ e * 4 ^ e * 8 + 6 - e
def Asc (l : List Nat) : Prop := l.Pairwise (· < ·)
def Srt (l : List Nat) : Prop := l.Pairwise (· ≤ ·)
/-- at the exponent e the two codes lie in one square, in different quadrants -/
def spl (e c d : Nat) : Prop := c / 4 ^ e = d / 4 ^ e ∧ c / 4 ^ (e - 1) ≠ d / 4 ^ (e - 1)
def isNode (cs : List Nat) (q : Nat) : Prop := q = 0 ∨ ∃ e c d, 1 ≤ e ∧ e ≤ 5 ∧ c ∈ cs ∧ d ∈ cs ∧ spl e c d ∧ q = sq c e
def spn (c d : Nat) : Nat := if c = d then 0 else if c / 4 = d / 4 then 1 else if c / 16 = d / 16 then 2 else if c / 64 = d / 64 then 3 else if c / 256 = d / 256 then 4 else if c / 1024 = d / 1024 then 5 else 6
theorem e15 {e : Nat} (h1 : 1 ≤ e) (h2 : e ≤ 5) : e = 1 ∨ e = 2 ∨ e = 3 ∨ e = 4 ∨ e = 5 := by omega
theorem spl_spn {e c d : Nat} (h1 : 1 ≤ e) (h2 : e ≤ 5) (h : spl e c d) : spn c d = e := by
  obtain ⟨a, b⟩ := h
  unfold spn
  rcases e15 h1 h2 with rfl | rfl | rfl | rfl | rfl <;> simp only [Nat.reducePow, Nat.reduceSub, Nat.pow_zero, Nat.div_one] at a b <;> (repeat' split) <;> omega
theorem asc_tail {a : Nat} {l : List Nat} (h : Asc (a :: l)) : Asc l := (List.pairwise_cons.mp h).2
theorem asc_head {a : Nat} {l : List Nat} (h : Asc (a :: l)) : ∀ q ∈ l, a < q := (List.pairwise_cons.mp h).1
theorem asc_ext : ∀ {l r : List Nat}, Asc l → Asc r → (∀ q, q ∈ l ↔ q ∈ r) → l = r
  | [], [], _, _, _ => rfl
  | [], b :: r, _, _, h => absurd ((h b).mpr List.mem_cons_self) List.not_mem_nil
  | a :: l, [], _, _, h => absurd ((h a).mp List.mem_cons_self) List.not_mem_nil
  | a :: l, b :: r, h1, h2, h => by
    have hab : a = b := by
      have x1 := (h a).mp List.mem_cons_self
      have x2 := (h b).mpr List.mem_cons_self
      rcases List.mem_cons.mp x1 with e | e
      · exact e
      · rcases List.mem_cons.mp x2 with g | g
        · exact g.symm
        · have := asc_head h2 a e
          have := asc_head h1 b g
          omega
    subst hab
    congr 1
    refine asc_ext (asc_tail h1) (asc_tail h2) fun q => ⟨fun g => ?_, fun g => ?_⟩
    · rcases List.mem_cons.mp ((h q).mp (List.mem_cons_of_mem _ g)) with e | e
      · have := asc_head h1 q g
        omega
      · exact e
    · rcases List.mem_cons.mp ((h q).mpr (List.mem_cons_of_mem _ g)) with e | e
      · have := asc_head h2 q g
        omega
      · exact e
theorem asc_len : ∀ {l r : List Nat}, Asc l → (∀ q ∈ l, q ∈ r) → l.length ≤ r.length
  | [], r, _, _ => Nat.zero_le _
  | a :: l, r, h1, h => by
    have ha : a ∈ r := h a List.mem_cons_self
    have := asc_len (l := l) (r := r.erase a) (asc_tail h1) fun q hq => by
      have := asc_head h1 q hq
      exact (List.mem_erase_of_ne (by omega)).mpr (h q (List.mem_cons_of_mem _ hq))
    rw [List.length_erase_of_mem ha] at this
    have hp : 0 < r.length := List.length_pos_of_mem ha
    rw [List.length_cons]
    omega
theorem srt_le {l : List Nat} (h : Srt l) {i j : Nat} (hij : i ≤ j) (hj : j < l.length) : l.getD i 0 ≤ l.getD j 0 := by
  rcases Nat.lt_or_ge i j with g | g
  · have := List.pairwise_iff_getElem.mp h i j (by omega) hj g
    rw [List.getD_eq_getElem?_getD, List.getD_eq_getElem?_getD, List.getElem?_eq_getElem hj, List.getElem?_eq_getElem (show i < l.length by omega)]
    exact this
  · have : i = j := by omega
    subst this
    exact Nat.le_refl _
theorem mem_getD {l : List Nat} {c : Nat} (h : c ∈ l) : ∃ i, i < l.length ∧ l.getD i 0 = c := by
  obtain ⟨i, hi, e⟩ := List.mem_iff_getElem.mp h
  exact ⟨i, hi, by rw [List.getD_eq_getElem?_getD, List.getElem?_eq_getElem hi]; exact e⟩
theorem getD_mem {l : List Nat} {i : Nat} (h : i < l.length) : l.getD i 0 ∈ l := by
  rw [List.getD_eq_getElem?_getD, List.getElem?_eq_getElem h]
  exact List.getElem_mem h
/-- between two in one square but different quadrants there are two neighbours so -/
theorem adj {cs : List Nat} (hs : Srt cs) {e : Nat} : ∀ (n i j : Nat), j = i + n → j < cs.length → spl e (cs.getD i 0) (cs.getD j 0) → ∃ k, i ≤ k ∧ k + 1 ≤ j ∧ spl e (cs.getD k 0) (cs.getD (k + 1) 0) ∧ cs.getD k 0 / 4 ^ e = cs.getD i 0 / 4 ^ e := by
  intro n
  induction n with
  | zero =>
    intro i j h1 h2 h3
    have : i = j := by omega
    subst this
    exact absurd rfl h3.2
  | succ n ih =>
    intro i j h1 h2 h3
    have hm : cs.getD (j - 1) 0 / 4 ^ e = cs.getD i 0 / 4 ^ e := by
      have a1 : cs.getD i 0 / 4 ^ e ≤ cs.getD (j - 1) 0 / 4 ^ e := Nat.div_le_div_right (srt_le hs (by omega) (by omega))
      have a2 : cs.getD (j - 1) 0 / 4 ^ e ≤ cs.getD j 0 / 4 ^ e := Nat.div_le_div_right (srt_le hs (by omega) h2)
      have := h3.1
      omega
    by_cases g : cs.getD (j - 1) 0 / 4 ^ (e - 1) = cs.getD j 0 / 4 ^ (e - 1)
    · obtain ⟨k, b1, b2, b3, b4⟩ := ih i (j - 1) (by omega) (by omega) ⟨hm.symm, fun q => h3.2 (q.trans g)⟩
      exact ⟨k, b1, by omega, b3, b4⟩
    · refine ⟨j - 1, by omega, by omega, ?_, hm⟩
      rw [show j - 1 + 1 = j by omega]
      exact ⟨hm.trans h3.1, g⟩
theorem sq_cong {e c d : Nat} (h : c / 4 ^ e = d / 4 ^ e) : sq c e = sq d e := by unfold sq; rw [h]
theorem node_adj {cs : List Nat} (hs : Srt cs) {q : Nat} (h : isNode cs q) : q = 0 ∨ ∃ k, k + 1 < cs.length ∧ q = sq (cs.getD k 0) (spn (cs.getD k 0) (cs.getD (k + 1) 0)) := by
  rcases h with h | ⟨e, c, d, h1, h2, hc, hd, hs1, rfl⟩
  · exact Or.inl h
  · right
    obtain ⟨i, hi, ei⟩ := mem_getD hc
    obtain ⟨j, hj, ej⟩ := mem_getD hd
    subst ei ej
    rcases Nat.lt_or_ge i j with g | g
    · obtain ⟨k, b1, b2, b3, b4⟩ := adj hs (j - i) i j (by omega) hj hs1
      exact ⟨k, by omega, by rw [spl_spn h1 h2 b3]; exact sq_cong b4.symm⟩
    · obtain ⟨k, b1, b2, b3, b4⟩ := adj hs (i - j) j i (by omega) hi ⟨hs1.1.symm, fun q => hs1.2 q.symm⟩
      exact ⟨k, by omega, by rw [spl_spn h1 h2 b3]; exact sq_cong (hs1.1.trans b4.symm)⟩
/-- no more nodes than points (or the whole alone) -/
theorem node_len {cs qs : List Nat} (hs : Srt cs) (ha : Asc qs) (h : ∀ q ∈ qs, isNode cs q) : qs.length ≤ max 1 cs.length := by
  have := asc_len (r := 0 :: (List.range (cs.length - 1)).map fun k => sq (cs.getD k 0) (spn (cs.getD k 0) (cs.getD (k + 1) 0))) ha fun q hq => by
    rcases node_adj hs (h q hq) with e | ⟨k, hk, e⟩
    · rw [e]
      exact List.mem_cons_self
    · exact List.mem_cons_of_mem _ (List.mem_map.mpr ⟨k, List.mem_range.mpr (by omega), e.symm⟩)
  rw [List.length_cons, List.length_map, List.length_range] at this
  omega
theorem node_mono {cs ds : List Nat} (h : ∀ c ∈ cs, c ∈ ds) {q : Nat} (g : isNode cs q) : isNode ds q := by
  rcases g with g | ⟨e, c, d, h1, h2, hc, hd, h3, h4⟩
  · exact Or.inl g
  · exact Or.inr ⟨e, c, d, h1, h2, h c hc, h d hd, h3, h4⟩
end
section
/-! THE CLASS'S LEVEL: its codes and its squares, and how it finds them -/
def LvC (w : Wd) (a : Nat) (cs qs : List Nat) : Prop :=
  w a = some (.inr (1, [.ref (a + 1), .int (nI cs.length), .ref (a + 2), .int (nI qs.length)])) ∧
  (∃ f, w (a + 1) = some (.inl (0, 24, .inl f)) ∧ ∀ i, i < cs.length → f i = nI (cs.getD i 0)) ∧
  (∃ f, w (a + 2) = some (.inl (0, 24, .inl f)) ∧ ∀ i, i < qs.length → f i = nI (qs.getD i 0)) ∧
  cs.length ≤ 24 ∧ qs.length ≤ 24 ∧ 0 < qs.length ∧ qs.getD 0 0 = 0
abbrev Fr2 (w w' : Wd) (a : Nat) : Prop := ∀ q, (q < a ∨ a + 2 < q) → w' q = w q
theorem LvC.frame {w w' : Wd} {a : Nat} {cs qs : List Nat} (h : LvC w a cs qs) (hq : ∀ q, a ≤ q → q ≤ a + 2 → w' q = w q) : LvC w' a cs qs := by
  obtain ⟨h0, ⟨f, h1, h2⟩, ⟨g, h3, h4⟩, h5⟩ := h
  exact ⟨by rw [hq _ (by omega) (by omega)]; exact h0, ⟨f, by rw [hq _ (by omega) (by omega)]; exact h1, h2⟩, ⟨g, by rw [hq _ (by omega) (by omega)]; exact h3, h4⟩, h5⟩
theorem getD_app {l : List Nat} {x i : Nat} (h : i < l.length) : (l ++ [x]).getD i 0 = l.getD i 0 := by
  rw [List.getD_eq_getElem?_getD, List.getD_eq_getElem?_getD, List.getElem?_append_left h]
theorem getD_last {l : List Nat} {x : Nat} : (l ++ [x]).getD l.length 0 = x := by
  rw [List.getD_eq_getElem?_getD, List.getElem?_append_right (Nat.le_refl _), Nat.sub_self]
  rfl
section LV
variable {w : Wd} {a n : Nat} {cs qs : List Nat}
theorem LvC.cd (h : LvC w a cs qs) {i : Nat} (hi : i < cs.length) : agI 0 w (a + 1) (nI i) = some (nI (cs.getD i 0)) := by
  obtain ⟨h0, ⟨f, h1, h2⟩, ⟨g, h3, h4⟩, h5, -⟩ := h
  rw [agI_at h1 (by omega) (by decide), h2 i hi]
theorem LvC.sqr (h : LvC w a cs qs) {i : Nat} (hi : i < qs.length) : agI 0 w (a + 2) (nI i) = some (nI (qs.getD i 0)) := by
  obtain ⟨h0, ⟨f, h1, h2⟩, ⟨g, h3, h4⟩, h5, h6, -⟩ := h
  rw [agI_at h3 (by omega) (by decide), h4 i hi]
theorem LvC.g0 (h : LvC w a cs qs) : gfR 1 0 w a = some (a + 1) := gfR_at h.1 rfl
theorem LvC.g2 (h : LvC w a cs qs) : gfR 1 2 w a = some (a + 2) := gfR_at h.1 rfl
theorem LvC.i1 (h : LvC w a cs qs) : gfI 1 1 w a = some (nI cs.length) := gfI_at h.1 rfl
theorem LvC.i3 (h : LvC w a cs qs) : gfI 1 3 w a = some (nI qs.length) := gfI_at h.1 rfl
theorem LvC.c (h : LvC w a cs qs) : chk 1 w a = some () := chk_at h.1
theorem m_lclear (h : LvC w a cs qs) : ∃ w', m_X1_clear n w a = some w' ∧ LvC w' a [] [0] ∧ Fr2 w w' a := by
  obtain ⟨h0, ⟨f, h1, h2⟩, ⟨g, h3, h4⟩, h5, h6, h7, h8⟩ := h
  generalize hw : wup (wup w a (.inr (1, [.ref (a + 1), .int 0, .ref (a + 2), .int (nI qs.length)]))) a (.inr (1, [.ref (a + 1), .int 0, .ref (a + 2), .int 1])) = w'
  have o : ∀ q, q ≠ a → w' q = w q := fun q hq => by rw [← hw, wup_ne hq, wup_ne hq]
  refine ⟨w', ?_, ⟨by rw [← hw, wup_self]; rfl, ⟨f, by rw [o _ (by omega)]; exact h1, fun i hi => absurd hi (Nat.not_lt_zero _)⟩, ⟨g, by rw [o _ (by omega)]; exact h3, fun i hi => ?_⟩, by decide, by decide, by decide, rfl⟩, fun q hq => o q (by omega)⟩
  · rw [m_X1_clear, pfV_at h0 (Nat.le_of_ble_eq_true rfl), Option.bind_some, pfV_at wup_self (Nat.le_of_ble_eq_true rfl), Option.bind_some]
    exact congrArg some hw
  · have : i = 0 := by
      rw [List.length_cons, List.length_nil] at hi
      omega
    subst this
    rw [h4 0 h7, h8]
    rfl
theorem m_take (h : LvC w a cs qs) {x : Nat} (hl : cs.length < 24) : ∃ w', m_X1_take n w a (nI x) = some w' ∧ LvC w' a (cs ++ [x]) qs ∧ Fr2 w w' a := by
  obtain ⟨h0, ⟨f, h1, h2⟩, ⟨g, h3, h4⟩, h5, h6, h7, h8⟩ := h
  generalize hw : wup (wup w (a + 1) (.inl (0, 24, .inl (upd f cs.length (nI x))))) a (.inr (1, [.ref (a + 1), .int (nI (cs.length + 1)), .ref (a + 2), .int (nI qs.length)])) = w'
  have o : ∀ q, q ≠ a → q ≠ a + 1 → w' q = w q := fun q hq hq1 => by rw [← hw, wup_ne hq, wup_ne hq1]
  have h0' : wup w (a + 1) (.inl (0, 24, .inl (upd f cs.length (nI x)))) a = some (.inr (1, [.ref (a + 1), .int (nI cs.length), .ref (a + 2), .int (nI qs.length)])) := by rw [wup_ne (by omega)]; exact h0
  refine ⟨w', ?_, ⟨by rw [← hw, wup_self, List.length_append]; rfl, ⟨upd f cs.length (nI x), by rw [← hw, wup_ne (by omega), wup_self], fun i hi => ?_⟩, ⟨g, by rw [o _ (by omega) (by omega)]; exact h3, h4⟩, ?_, h6, h7, h8⟩, fun q hq => o q (by omega) (by omega)⟩
  · rw [m_X1_take, gfI_at h0 rfl, Option.bind_some, if_neg (show ¬ (24 : Int32) ≤ nI cs.length from nI_ge hl (by decide)), gfR_at h0 rfl, Option.bind_some, Option.bind_some, asI_at h1 hl (by decide), Option.bind_some, gfI_at h0' rfl, Option.bind_some, pfV_at h0' (Nat.le_of_ble_eq_true rfl), Option.bind_some, nI_1]
    exact congrArg some hw
  · rw [List.length_append, List.length_cons, List.length_nil] at hi
    by_cases e : i = cs.length
    · subst e
      rw [pk_us, getD_last]
    · rw [pk_un e, h2 i (by omega), getD_app (by omega)]
  · rw [List.length_append, List.length_cons, List.length_nil]
    omega
theorem m_keep (h : LvC w a cs qs) {x : Nat} (hl : qs.length < 24) : ∃ w', m_X1_keep n w a (nI x) = some w' ∧ LvC w' a cs (qs ++ [x]) ∧ Fr2 w w' a := by
  obtain ⟨h0, ⟨f, h1, h2⟩, ⟨g, h3, h4⟩, h5, h6, h7, h8⟩ := h
  generalize hw : wup (wup w (a + 2) (.inl (0, 24, .inl (upd g qs.length (nI x))))) a (.inr (1, [.ref (a + 1), .int (nI cs.length), .ref (a + 2), .int (nI (qs.length + 1))])) = w'
  have o : ∀ q, q ≠ a → q ≠ a + 2 → w' q = w q := fun q hq hq1 => by rw [← hw, wup_ne hq, wup_ne hq1]
  have h0' : wup w (a + 2) (.inl (0, 24, .inl (upd g qs.length (nI x)))) a = some (.inr (1, [.ref (a + 1), .int (nI cs.length), .ref (a + 2), .int (nI qs.length)])) := by rw [wup_ne (by omega)]; exact h0
  refine ⟨w', ?_, ⟨by rw [← hw, wup_self, List.length_append]; rfl, ⟨f, by rw [o _ (by omega) (by omega)]; exact h1, h2⟩, ⟨upd g qs.length (nI x), by rw [← hw, wup_ne (by omega), wup_self], fun i hi => ?_⟩, h5, ?_, ?_, ?_⟩, fun q hq => o q (by omega) (by omega)⟩
  · rw [m_X1_keep, gfI_at h0 rfl, Option.bind_some, if_neg (show ¬ (24 : Int32) ≤ nI qs.length from nI_ge hl (by decide)), gfR_at h0 rfl, Option.bind_some, Option.bind_some, asI_at h3 hl (by decide), Option.bind_some, gfI_at h0' rfl, Option.bind_some, pfV_at h0' (Nat.le_of_ble_eq_true rfl), Option.bind_some, nI_1]
    exact congrArg some hw
  · rw [List.length_append, List.length_cons, List.length_nil] at hi
    by_cases e : i = qs.length
    · subst e
      rw [pk_us, getD_last]
    · rw [pk_un e, h4 i (by omega), getD_app (by omega)]
  · rw [List.length_append, List.length_cons, List.length_nil]
    omega
  · rw [List.length_append]
    omega
  · rw [getD_app h7]
    exact h8
def C12 (cs : List Nat) : Prop := ∀ c ∈ cs, c < 4096
def beg (cs : List Nat) (k e : Nat) : Prop := k = 0 ∨ cs.getD (k - 1) 0 / 4 ^ e ≠ cs.getD k 0 / 4 ^ e
def brs (cs : List Nat) (k e : Nat) : Prop := ∃ j, k < j ∧ j < cs.length ∧ spl e (cs.getD k 0) (cs.getD j 0)
theorem C12.at (hc : C12 cs) {i : Nat} (hi : i < cs.length) : cs.getD i 0 < 2 ^ 31 := lt31 (hc _ (getD_mem hi))
theorem m_begins (h : LvC w a cs qs) (hc : C12 cs) {k e : Nat} (hk : k < cs.length) (he : e ≤ 5) : ∃ v, m_X1_beginsSquare n w a (nI k) (nI e) = some v ∧ (v = 1 ∧ beg cs k e ∨ v = 0 ∧ ¬ beg cs k e) := by
  have h24 := h.2.2.2.1
  unfold m_X1_beginsSquare
  by_cases hz : k = 0
  · subst hz
    exact ⟨1, by rw [if_pos (show nI 0 = 0 from rfl)], Or.inl ⟨rfl, Or.inl rfl⟩⟩
  · rw [if_neg (nI_ne0 (by omega) (by omega)), h.g0, Option.bind_some, show nI k - 1 = nI (k - 1) from pk_sub (a := k) (b := 1) (by omega), h.cd (by omega), Option.bind_some, Option.bind_some, h.cd hk, Option.bind_some, shr2 (hc.at (by omega)) (by omega), shr2 (hc.at hk) (by omega)]
    by_cases g : cs.getD (k - 1) 0 / 4 ^ e = cs.getD k 0 / 4 ^ e
    · exact ⟨0, by rw [if_pos (by rw [g])], Or.inr ⟨rfl, fun q => q.elim hz fun q => q g⟩⟩
    · exact ⟨1, by rw [if_neg fun q => g ((nI_eq (div_lt31 (hc.at (by omega))) (div_lt31 (hc.at hk))).mp q)], Or.inl ⟨rfl, Or.inr g⟩⟩
theorem m_branches (hn : 30 ≤ n) (h : LvC w a cs qs) (hc : C12 cs) (hs : Srt cs) {k e : Nat} (hk : k < cs.length) (h1 : 1 ≤ e) (he : e ≤ 5) : ∃ v, m_X1_branches n w a (nI k) (nI e) = some v ∧ (v = 1 ∧ brs cs k e ∨ v = 0 ∧ ¬ brs cs k e) := by
  have h24 := h.2.2.2.1
  unfold m_X1_branches
  rw [h.g0, Option.bind_some, h.cd hk, Option.bind_some, Option.bind_some, shr2 (hc.at hk) (by omega), h.cd hk, Option.bind_some, shr2m (hc.at hk) h1 (by omega), nI_1]
  refine lp (σ := Unit) (fun t j _ => m_X1_branches_p30 n t w a (nI e) (nI (cs.getD k 0 / 4 ^ e)) (nI (cs.getD k 0 / 4 ^ (e - 1))) (nI j)) (fun j _ => k < j ∧ ∀ i, k < i → i < j → cs.getD i 0 / 4 ^ (e - 1) = cs.getD k 0 / 4 ^ (e - 1)) (fun v => v = 1 ∧ brs cs k e ∨ v = 0 ∧ ¬ brs cs k e) cs.length ?_ ?_ (cs.length - (k + 1)) (k + 1) n () (by omega) (by omega) ⟨Nat.lt_succ_self _, fun i h1 h2 => absurd h1 (by omega)⟩
  · rintro t j ⟨⟩ hj ⟨hkj, hi⟩
    rw [m_X1_branches_p30, h.i1, Option.bind_some, if_neg (nI_ge hj (by omega)), h.g0, Option.bind_some, h.cd hj, Option.bind_some, shr2 (hc.at hj) (by omega)]
    by_cases g : cs.getD j 0 / 4 ^ e = cs.getD k 0 / 4 ^ e
    · rw [if_pos (by rw [g]), Option.bind_some, h.cd hj, Option.bind_some, shr2m (hc.at hj) h1 (by omega)]
      by_cases g2 : cs.getD j 0 / 4 ^ (e - 1) = cs.getD k 0 / 4 ^ (e - 1)
      · left
        refine ⟨(), by rw [if_pos (by rw [g2]), nI_1], by omega, fun i a1 a2 => ?_⟩
        by_cases e : i = j
        · rw [e]
          exact g2
        · exact hi i a1 (by omega)
      · right
        exact ⟨1, by rw [if_neg fun q => g2 ((nI_eq (div_lt31 (hc.at hj)) (div_lt31 (hc.at hk))).mp q)], Or.inl ⟨rfl, j, hkj, hj, g.symm, fun q => g2 q.symm⟩⟩
    · right
      refine ⟨0, by rw [if_neg fun q => g ((nI_eq (div_lt31 (hc.at hj)) (div_lt31 (hc.at hk))).mp q)], Or.inr ⟨rfl, ?_⟩⟩
      rintro ⟨i, a1, a2, a3, a4⟩
      rcases Nat.lt_or_ge i j with q | q
      · exact a4 (hi i a1 q).symm
      · have b1 : cs.getD k 0 / 4 ^ e ≤ cs.getD j 0 / 4 ^ e := Nat.div_le_div_right (srt_le hs (by omega) hj)
        have b2 : cs.getD j 0 / 4 ^ e ≤ cs.getD i 0 / 4 ^ e := Nat.div_le_div_right (srt_le hs q a2)
        omega
  · rintro t ⟨⟩ ⟨hkj, hi⟩
    refine ⟨0, ?_, Or.inr ⟨rfl, ?_⟩⟩
    · rw [m_X1_branches_p30, h.i1, Option.bind_some, if_pos (Int32.le_refl _)]
    · rintro ⟨i, a1, a2, a3, a4⟩
      exact a4 (hi i a1 a2).symm
end LV
end
section
/-! THE CLASS FINDS THE NODES OF A LEVEL -/
def upto (cs : List Nat) (k e : Nat) (q : Nat) : Prop := q = 0 ∨ ∃ i f, (i < k ∨ i = k ∧ e < f) ∧ i < cs.length ∧ 1 ≤ f ∧ f ≤ 5 ∧ beg cs i f ∧ brs cs i f ∧ q = sq (cs.getD i 0) f
theorem sq_lt {x y e f : Nat} (h1 : 1 ≤ e) (h2 : e ≤ 5) (h3 : 1 ≤ f) (h4 : f ≤ 5) (h : x / 4 ^ f < y / 4 ^ f) : sq x e < sq y f := by
  unfold sq
  have a1 : x / 4 ^ e * 4 ^ e ≤ x := Nat.div_mul_le_self _ _
  have a2 : (x / 4 ^ f + 1) * 4 ^ f ≤ y / 4 ^ f * 4 ^ f := Nat.mul_le_mul_right _ h
  have a3 : x < (x / 4 ^ f + 1) * 4 ^ f := by
    have := Nat.lt_div_mul_add (a := x) (b := 4 ^ f) (Nat.pow_pos (by decide))
    rw [Nat.add_mul, Nat.one_mul]
    exact this
  omega
theorem sq_lt2 {x e f : Nat} (h1 : 1 ≤ e) (h2 : e < f) (h4 : f ≤ 5) : sq x f < sq x e := by
  unfold sq
  have h : x / 4 ^ f * 4 ^ f ≤ x / 4 ^ e * 4 ^ e := by
    rcases e15 h1 (by omega) with rfl | rfl | rfl | rfl | rfl <;> rcases e15 (e := f) (by omega) h4 with rfl | rfl | rfl | rfl | rfl <;> simp only [Nat.reducePow] <;> omega
  omega
theorem sq_pos {x e : Nat} (h : e ≤ 5) : 0 < sq x e := by unfold sq; omega
theorem upto_node {cs : List Nat} {k e q : Nat} (h : upto cs k e q) : isNode cs q := by
  rcases h with h | ⟨i, f, h1, h2, h3, h4, h5, ⟨j, j1, j2, j3⟩, h7⟩
  · exact Or.inl h
  · exact Or.inr ⟨f, _, _, h3, h4, getD_mem h2, getD_mem j2, j3, h7⟩
theorem upto_lt {cs : List Nat} (hs : Srt cs) {k e q : Nat} (hk : k < cs.length) (h1 : 1 ≤ e) (h2 : e ≤ 5) (hb : beg cs k e) (h : upto cs k e q) : q < sq (cs.getD k 0) e := by
  rcases h with h | ⟨i, f, h3, h4, h5, h6, -, -, h7⟩
  · rw [h]
    exact sq_pos h2
  · rw [h7]
    rcases h3 with h3 | ⟨rfl, h3⟩
    · refine sq_lt h5 h6 h1 h2 ?_
      have hne : cs.getD (k - 1) 0 / 4 ^ e ≠ cs.getD k 0 / 4 ^ e := hb.resolve_left (by omega)
      have b1 : cs.getD i 0 / 4 ^ e ≤ cs.getD (k - 1) 0 / 4 ^ e := Nat.div_le_div_right (srt_le hs (by omega) (by omega))
      have b2 : cs.getD (k - 1) 0 / 4 ^ e ≤ cs.getD k 0 / 4 ^ e := Nat.div_le_div_right (srt_le hs (by omega) hk)
      omega
    · exact sq_lt2 h1 h3 h6
theorem asc_app {l : List Nat} {x : Nat} (h : Asc l) (hx : ∀ q ∈ l, q < x) : Asc (l ++ [x]) :=
  List.pairwise_append.mpr ⟨h, List.pairwise_singleton _ _, fun a ha b hb => by rw [List.mem_singleton.mp hb]; exact hx a ha⟩
def Upto (cs qs : List Nat) (k e : Nat) : Prop := Asc qs ∧ ∀ q, q ∈ qs ↔ upto cs k e q
theorem Upto.len {cs qs : List Nat} {k e : Nat} (hs : Srt cs) (h : Upto cs qs k e) : qs.length ≤ max 1 cs.length := node_len hs h.1 fun q hq => upto_node ((h.2 q).mp hq)
theorem Upto.skip {cs qs : List Nat} {k e : Nat} (h : Upto cs qs k (e + 1)) (hn : ¬ (beg cs k (e + 1) ∧ brs cs k (e + 1))) : Upto cs qs k e := by
  refine ⟨h.1, fun q => (h.2 q).trans ⟨fun g => ?_, fun g => ?_⟩⟩
  · rcases g with g | ⟨i, f, g1, g2⟩
    · exact Or.inl g
    · exact Or.inr ⟨i, f, by omega, g2⟩
  · rcases g with g | ⟨i, f, g1, g2, g3, g4, g5, g6, g7⟩
    · exact Or.inl g
    · refine Or.inr ⟨i, f, ?_, g2, g3, g4, g5, g6, g7⟩
      rcases g1 with g1 | ⟨rfl, g1⟩
      · exact Or.inl g1
      · refine Or.inr ⟨rfl, ?_⟩
        rcases Nat.lt_or_ge (e + 1) f with q | q
        · exact q
        · have : f = e + 1 := by omega
          subst this
          exact absurd ⟨g5, g6⟩ hn
theorem Upto.add {cs qs : List Nat} {k e : Nat} (hs : Srt cs) (hk : k < cs.length) (he : e + 1 ≤ 5) (h : Upto cs qs k (e + 1)) (hb : beg cs k (e + 1)) (hr : brs cs k (e + 1)) : Upto cs (qs ++ [sq (cs.getD k 0) (e + 1)]) k e := by
  refine ⟨asc_app h.1 fun q hq => upto_lt hs hk (by omega) he hb ((h.2 q).mp hq), fun q => ?_⟩
  rw [List.mem_append, List.mem_singleton, h.2]
  constructor
  · rintro (g | g)
    · rcases g with g | ⟨i, f, g1, g2⟩
      · exact Or.inl g
      · exact Or.inr ⟨i, f, by omega, g2⟩
    · exact Or.inr ⟨k, e + 1, Or.inr ⟨rfl, Nat.lt_succ_self _⟩, hk, by omega, he, hb, hr, g⟩
  · rintro (g | ⟨i, f, g1, g2, g3, g4, g5, g6, g7⟩)
    · exact Or.inl (Or.inl g)
    · rcases g1 with g1 | ⟨rfl, g1⟩
      · exact Or.inl (Or.inr ⟨i, f, Or.inl g1, g2, g3, g4, g5, g6, g7⟩)
      · rcases Nat.lt_or_ge (e + 1) f with q | q
        · exact Or.inl (Or.inr ⟨i, f, Or.inr ⟨rfl, q⟩, g2, g3, g4, g5, g6, g7⟩)
        · have : f = e + 1 := by omega
          subst this
          exact Or.inr g7
theorem Upto.next {cs qs : List Nat} {k : Nat} (h : Upto cs qs k 0) : Upto cs qs (k + 1) 5 := by
  refine ⟨h.1, fun q => (h.2 q).trans ⟨fun g => ?_, fun g => ?_⟩⟩
  · rcases g with g | ⟨i, f, g1, g2⟩
    · exact Or.inl g
    · exact Or.inr ⟨i, f, by omega, g2⟩
  · rcases g with g | ⟨i, f, g1, g2, g3, g4, g5⟩
    · exact Or.inl g
    · exact Or.inr ⟨i, f, by omega, g2, g3, g4, g5⟩
theorem Upto.start {cs : List Nat} : Upto cs [0] 0 5 := by
  refine ⟨List.pairwise_singleton _ _, fun q => ?_⟩
  rw [List.mem_singleton]
  refine ⟨fun h => Or.inl h, fun h => ?_⟩
  rcases h with h | ⟨i, f, g1, g2, g3, g4, g5⟩
  · exact h
  · omega
/-- all nodes, and no others -/
def NodesOf (cs qs : List Nat) : Prop := Asc qs ∧ ∀ q, q ∈ qs ↔ isNode cs q
theorem Upto.done {cs qs : List Nat} (hs : Srt cs) (h : Upto cs qs cs.length 5) : NodesOf cs qs := by
  refine ⟨h.1, fun q => (h.2 q).trans ⟨upto_node, fun g => ?_⟩⟩
  rcases g with g | ⟨e, c, d, h1, h2, hc, hd, hsp, rfl⟩
  · exact Or.inl g
  · obtain ⟨i, hi, ei⟩ := mem_getD hc
    obtain ⟨j, hj, ej⟩ := mem_getD hd
    subst ei ej
    obtain ⟨k, ⟨hk, hk2⟩, hl⟩ := pk_least (fun k => k < cs.length ∧ cs.getD k 0 / 4 ^ e = cs.getD i 0 / 4 ^ e) ⟨i, hi, rfl⟩
    have hki : k ≤ i := Nat.not_lt.mp fun g => hl i g ⟨hi, rfl⟩
    have hkj : k ≤ j := Nat.not_lt.mp fun g => hl j g ⟨hj, hsp.1.symm⟩
    have hb : beg cs k e := by
      by_cases hz : k = 0
      · exact Or.inl hz
      · exact Or.inr fun g => hl (k - 1) (by omega) ⟨by omega, g.trans hk2⟩
    have hr : brs cs k e := by
      by_cases g : cs.getD k 0 / 4 ^ (e - 1) = cs.getD i 0 / 4 ^ (e - 1)
      · refine ⟨j, ?_, hj, hk2.trans hsp.1, fun q => hsp.2 (g.symm.trans q)⟩
        rcases Nat.lt_or_ge k j with q | q
        · exact q
        · have : k = j := by omega
          subst this
          exact absurd g.symm hsp.2
      · refine ⟨i, ?_, hi, hk2, g⟩
        rcases Nat.lt_or_ge k i with q | q
        · exact q
        · have : k = i := by omega
          subst this
          exact absurd rfl g
    exact Or.inr ⟨k, e, Or.inl hk, hk, h1, h2, hb, hr, (sq_cong hk2).symm⟩
theorem m_around {c e : Nat} (hc : c < 4096) (he : e ≤ 5) : m_X3_around (nI c) (nI e) = nI (sq c e) := by
  unfold m_X3_around sq
  have h : c / 4 ^ e * 4 ^ e ≤ c := Nat.div_mul_le_self _ _
  rw [shr2 (lt31 hc) (by omega), shl2 (by omega) (by omega), show (8 : Int32) = nI 8 from rfl, pk_mul, show (6 : Int32) = nI 6 from rfl, nI_add, pk_sub (by omega)]
theorem NodesOf.z {cs qs : List Nat} {k e : Nat} (h : Upto cs qs k e) : 0 < qs.length ∧ qs.getD 0 0 = 0 := by
  have h0 := (h.2 0).mpr (Or.inl rfl)
  have hp := List.length_pos_of_mem h0
  refine ⟨hp, ?_⟩
  obtain ⟨i, hi, e0⟩ := mem_getD h0
  have := srt_le (l := qs) (h.1.imp Nat.le_of_lt) (Nat.zero_le i) hi
  omega
theorem m_find {n : Nat} (hn : 60 ≤ n) {w : Wd} {a : Nat} {cs : List Nat} (h : LvC w a cs [0]) (hc : C12 cs) (hs : Srt cs) : ∃ w', m_X1_findNodes n w a = some w' ∧ (∃ qs, LvC w' a cs qs ∧ NodesOf cs qs) ∧ Fr2 w w' a := by
  have h24 := h.2.2.2.1
  unfold m_X1_findNodes
  refine lp (σ := Wd) (fun t k w => m_X1_findNodes_p2 n t w a (nI k)) (fun k v => (∃ qs, LvC v a cs qs ∧ Upto cs qs k 5) ∧ Fr2 w v a) _ cs.length ?_ ?_ cs.length 0 n w (by omega) (by omega) ⟨⟨_, h, Upto.start⟩, fun _ _ => rfl⟩
  · rintro t k v hk ⟨⟨qs, h0, hu⟩, hq⟩
    left
    show ∃ s', m_X1_findNodes_p2 n (t + 1) v a (nI k) = _ ∧ _
    rw [m_X1_findNodes_p2, h0.i1, Option.bind_some, if_neg (nI_ge hk (by omega))]
    have inner : ∀ (e : Nat), e ≤ 5 → ∀ (u : Nat) (v1 : Wd) (qs : List Nat), e < u → LvC v1 a cs qs → Upto cs qs k e → Fr2 w v1 a → ∃ s', m_X1_findNodes_p12 n (fun w b0 b1 => m_X1_findNodes_p2 n t w b0 b1) u v1 a (nI k) (nI e) = m_X1_findNodes_p2 n t s' a (nI (k + 1)) ∧ (∃ qs, LvC s' a cs qs ∧ Upto cs qs (k + 1) 5) ∧ Fr2 w s' a := by
      intro e
      induction e with
      | zero =>
        intro _ u v1 qs hu0 g1 g2 g3
        obtain ⟨u, rfl⟩ : ∃ x, u = x + 1 := ⟨u - 1, by omega⟩
        exact ⟨v1, by rw [m_X1_findNodes_p12, if_pos (show nI 0 ≤ 0 from Int32.le_refl _), nI_1], ⟨qs, g1, g2.next⟩, g3⟩
      | succ e ih =>
        intro he u v1 qs hu0 g1 g2 g3
        obtain ⟨u, rfl⟩ : ∃ x, u = x + 1 := ⟨u - 1, by omega⟩
        obtain ⟨x1, e1, r1⟩ := m_begins (n := n) g1 hc hk he
        rw [m_X1_findNodes_p12, if_neg (nI_nle (Nat.succ_pos _) (by omega)), g1.c, Option.bind_some, e1, Option.bind_some, pk_m1]
        rcases r1 with ⟨rfl, hb⟩ | ⟨rfl, hb⟩
        · rw [if_neg (by decide), Option.bind_some]
          obtain ⟨x2, e2, r2⟩ := m_branches (n := n) (by omega) g1 hc hs hk (Nat.succ_pos e) he
          rw [e2, Option.bind_some]
          rcases r2 with ⟨rfl, hr⟩ | ⟨rfl, hr⟩
          · have g4 := g2.add hs hk he hb hr
            have hl := g4.len hs
            rw [List.length_append, List.length_cons, List.length_nil] at hl
            obtain ⟨v2, e3, g5, q2⟩ := m_keep (n := n) g1 (x := sq (cs.getD k 0) (e + 1)) (by omega)
            rw [if_neg (by decide), g1.g0, Option.bind_some, g1.cd hk, Option.bind_some, Option.bind_some, m_around (hc _ (getD_mem hk)) he, e3, Option.bind_some]
            exact ih (by omega) u v2 _ (by omega) g5 g4 fun q hq1 => (q2 q hq1).trans (g3 q hq1)
          · rw [if_pos rfl]
            exact ih (by omega) u v1 qs (by omega) g1 (g2.skip fun q => hr q.2) g3
        · rw [if_pos rfl]
          exact ih (by omega) u v1 qs (by omega) g1 (g2.skip fun q => hb q.1) g3
    exact inner 5 (Nat.le_refl _) n v qs (by omega) h0 hu hq
  · rintro t v ⟨⟨qs, h0, hu⟩, hq⟩
    exact ⟨v, by rw [m_X1_findNodes_p2, h0.i1, Option.bind_some, if_pos (Int32.le_refl _)], ⟨qs, h0, hu.done hs⟩, hq⟩
end
